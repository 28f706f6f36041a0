theorem dL_isBoard_62 : decode cL_isBoard 62 = .ok (.aload_n 1, 1) := by decide +kernel
theorem dL_isBoard_63 : decode cL_isBoard 63 = .ok (.aload_n 3, 1) := by decide +kernel
theorem dL_isBoard_64 : decode cL_isBoard 64 = .ok (.aload_n 1, 1) := by decide +kernel
theorem dL_isBoard_65 : decode cL_isBoard 65 = .ok (.iload 6, 2) := by decide +kernel
theorem dL_isBoard_67 : decode cL_isBoard 67 = .ok (.iaload, 1) := by decide +kernel
theorem dL_isBoard_68 : decode cL_isBoard 68 = .ok (.invokestatic 16, 3) := by decide +kernel
theorem dL_isBoard_71 : decode cL_isBoard 71 = .ok (.istore 7, 2) := by decide +kernel
theorem dL_isBoard_73 : decode cL_isBoard 73 = .ok (.aload_n 1, 1) := by decide +kernel
theorem dL_isBoard_74 : decode cL_isBoard 74 = .ok (.iload 6, 2) := by decide +kernel
theorem dL_isBoard_76 : decode cL_isBoard 76 = .ok (.iaload, 1) := by decide +kernel
theorem dL_isBoard_77 : decode cL_isBoard 77 = .ok (.ifCond .ne 7, 3) := by decide +kernel
theorem dL_isBoard_80 : decode cL_isBoard 80 = .ok (.iconst 0, 1) := by decide +kernel
theorem dL_isBoard_81 : decode cL_isBoard 81 = .ok (.goto 14, 3) := by decide +kernel
theorem dL_isBoard_84 : decode cL_isBoard 84 = .ok (.aload_n 3, 1) := by decide +kernel
theorem dL_isBoard_85 : decode cL_isBoard 85 = .ok (.iload 6, 2) := by decide +kernel
theorem dL_isBoard_87 : decode cL_isBoard 87 = .ok (.iload 7, 2) := by decide +kernel
theorem dL_isBoard_89 : decode cL_isBoard 89 = .ok (.invokestatic 20, 3) := by decide +kernel
theorem dL_isBoard_92 : decode cL_isBoard 92 = .ok (.invokestatic 24, 3) := by decide +kernel
theorem dL_isBoard_95 : decode cL_isBoard 95 = .ok (.istore 8, 2) := by decide +kernel
theorem dL_isBoard_97 : decode cL_isBoard 97 = .ok (.aload_n 1, 1) := by decide +kernel
theorem dL_isBoard_98 : decode cL_isBoard 98 = .ok (.iload 6, 2) := by decide +kernel
theorem dL_isBoard_100 : decode cL_isBoard 100 = .ok (.iaload, 1) := by decide +kernel
theorem dL_isBoard_101 : decode cL_isBoard 101 = .ok (.ifCond .ne 7, 3) := by decide +kernel
theorem dL_isBoard_104 : decode cL_isBoard 104 = .ok (.iconst 0, 1) := by decide +kernel
theorem dL_isBoard_105 : decode cL_isBoard 105 = .ok (.goto 21, 3) := by decide +kernel
theorem dL_isBoard_108 : decode cL_isBoard 108 = .ok (.aload_n 3, 1) := by decide +kernel
theorem dL_isBoard_109 : decode cL_isBoard 109 = .ok (.iload 6, 2) := by decide +kernel
theorem dL_isBoard_111 : decode cL_isBoard 111 = .ok (.iload 7, 2) := by decide +kernel
theorem dL_isBoard_113 : decode cL_isBoard 113 = .ok (.aload_n 1, 1) := by decide +kernel
theorem dL_isBoard_114 : decode cL_isBoard 114 = .ok (.aload_n 3, 1) := by decide +kernel
theorem dL_isBoard_115 : decode cL_isBoard 115 = .ok (.iconst 0, 1) := by decide +kernel
theorem dL_isBoard_116 : decode cL_isBoard 116 = .ok (.invokestatic 16, 3) := by decide +kernel
theorem dL_isBoard_119 : decode cL_isBoard 119 = .ok (.ior, 1) := by decide +kernel
theorem dL_isBoard_120 : decode cL_isBoard 120 = .ok (.invokestatic 20, 3) := by decide +kernel
theorem dL_isBoard_123 : decode cL_isBoard 123 = .ok (.invokestatic 24, 3) := by decide +kernel
theorem dL_isBoard_126 : decode cL_isBoard 126 = .ok (.istore 9, 2) := by decide +kernel
theorem dL_isBoard_128 : decode cL_isBoard 128 = .ok (.aload_n 0, 1) := by decide +kernel
theorem dL_isBoard_129 : decode cL_isBoard 129 = .ok (.iload 6, 2) := by decide +kernel
theorem dL_isBoard_131 : decode cL_isBoard 131 = .ok (.invokevirtual 41, 3) := by decide +kernel
theorem dL_isBoard_134 : decode cL_isBoard 134 = .ok (.aload_n 1, 1) := by decide +kernel
theorem dL_isBoard_135 : decode cL_isBoard 135 = .ok (.iload 6, 2) := by decide +kernel
theorem dL_isBoard_137 : decode cL_isBoard 137 = .ok (.iaload, 1) := by decide +kernel
theorem dL_isBoard_138 : decode cL_isBoard 138 = .ok (.if_icmp .ne 51, 3) := by decide +kernel
theorem dL_isBoard_141 : decode cL_isBoard 141 = .ok (.aload_n 0, 1) := by decide +kernel
theorem dL_isBoard_142 : decode cL_isBoard 142 = .ok (.iload 6, 2) := by decide +kernel
theorem dL_isBoard_144 : decode cL_isBoard 144 = .ok (.invokevirtual 44, 3) := by decide +kernel
theorem dL_isBoard_147 : decode cL_isBoard 147 = .ok (.aload_n 2, 1) := by decide +kernel
theorem dL_isBoard_148 : decode cL_isBoard 148 = .ok (.iload 6, 2) := by decide +kernel
theorem dL_isBoard_150 : decode cL_isBoard 150 = .ok (.iaload, 1) := by decide +kernel
theorem dL_isBoard_151 : decode cL_isBoard 151 = .ok (.iconst 1, 1) := by decide +kernel
theorem dL_isBoard_152 : decode cL_isBoard 152 = .ok (.if_icmp .ne 7, 3) := by decide +kernel
theorem dL_isBoard_155 : decode cL_isBoard 155 = .ok (.iconst 1, 1) := by decide +kernel
theorem dL_isBoard_156 : decode cL_isBoard 156 = .ok (.goto 4, 3) := by decide +kernel
theorem dL_isBoard_159 : decode cL_isBoard 159 = .ok (.iconst 0, 1) := by decide +kernel
theorem dL_isBoard_160 : decode cL_isBoard 160 = .ok (.if_icmp .ne 29, 3) := by decide +kernel
theorem dL_isBoard_163 : decode cL_isBoard 163 = .ok (.aload_n 0, 1) := by decide +kernel
theorem dL_isBoard_164 : decode cL_isBoard 164 = .ok (.iload 6, 2) := by decide +kernel
theorem dL_isBoard_166 : decode cL_isBoard 166 = .ok (.invokevirtual 48, 3) := by decide +kernel
theorem dL_isBoard_169 : decode cL_isBoard 169 = .ok (.iload 8, 2) := by decide +kernel
theorem dL_isBoard_171 : decode cL_isBoard 171 = .ok (.if_icmp .ne 18, 3) := by decide +kernel
theorem dL_isBoard_174 : decode cL_isBoard 174 = .ok (.aload_n 0, 1) := by decide +kernel
theorem dL_isBoard_175 : decode cL_isBoard 175 = .ok (.iload 6, 2) := by decide +kernel
theorem dL_isBoard_177 : decode cL_isBoard 177 = .ok (.invokevirtual 51, 3) := by decide +kernel
theorem dL_isBoard_180 : decode cL_isBoard 180 = .ok (.iload 9, 2) := by decide +kernel
theorem dL_isBoard_182 : decode cL_isBoard 182 = .ok (.if_icmp .ne 7, 3) := by decide +kernel
theorem dL_isBoard_185 : decode cL_isBoard 185 = .ok (.iconst 1, 1) := by decide +kernel
theorem dL_isBoard_186 : decode cL_isBoard 186 = .ok (.goto 4, 3) := by decide +kernel
theorem dL_isBoard_189 : decode cL_isBoard 189 = .ok (.iconst 0, 1) := by decide +kernel
theorem dL_isBoard_190 : decode cL_isBoard 190 = .ok (.istore 4, 2) := by decide +kernel
theorem dL_isBoard_192 : decode cL_isBoard 192 = .ok (.iload 5, 2) := by decide +kernel
theorem dL_isBoard_194 : decode cL_isBoard 194 = .ok (.ifCond .eq 21, 3) := by decide +kernel
theorem dL_isBoard_197 : decode cL_isBoard 197 = .ok (.iload 8, 2) := by decide +kernel
theorem dL_isBoard_199 : decode cL_isBoard 199 = .ok (.aload_n 1, 1) := by decide +kernel
theorem dL_isBoard_200 : decode cL_isBoard 200 = .ok (.iload 6, 2) := by decide +kernel
theorem dL_isBoard_202 : decode cL_isBoard 202 = .ok (.iaload, 1) := by decide +kernel
theorem dL_isBoard_203 : decode cL_isBoard 203 = .ok (.if_icmp .ne 12, 3) := by decide +kernel
theorem dL_isBoard_206 : decode cL_isBoard 206 = .ok (.iload 8, 2) := by decide +kernel
theorem dL_isBoard_208 : decode cL_isBoard 208 = .ok (.ifCond .le 7, 3) := by decide +kernel
theorem dL_isBoard_211 : decode cL_isBoard 211 = .ok (.iconst 1, 1) := by decide +kernel
theorem dL_isBoard_212 : decode cL_isBoard 212 = .ok (.goto 4, 3) := by decide +kernel
theorem dL_isBoard_215 : decode cL_isBoard 215 = .ok (.iconst 0, 1) := by decide +kernel
theorem dL_isBoard_216 : decode cL_isBoard 216 = .ok (.istore 5, 2) := by decide +kernel
theorem dL_isBoard_218 : decode cL_isBoard 218 = .ok (.iinc 6 1, 3) := by decide +kernel
theorem dL_isBoard_221 : decode cL_isBoard 221 = .ok (.goto (-176), 3) := by decide +kernel
theorem dL_isBoard_224 : decode cL_isBoard 224 = .ok (.iload 4, 2) := by decide +kernel
theorem dL_isBoard_226 : decode cL_isBoard 226 = .ok (.ifCond .eq 30, 3) := by decide +kernel
theorem dL_isBoard_229 : decode cL_isBoard 229 = .ok (.aload_n 0, 1) := by decide +kernel
theorem dL_isBoard_230 : decode cL_isBoard 230 = .ok (.invokevirtual 54, 3) := by decide +kernel
theorem dL_isBoard_233 : decode cL_isBoard 233 = .ok (.iload 5, 2) := by decide +kernel
theorem dL_isBoard_235 : decode cL_isBoard 235 = .ok (.if_icmp .ne 21, 3) := by decide +kernel
theorem dL_isBoard_238 : decode cL_isBoard 238 = .ok (.iload 5, 2) := by decide +kernel
theorem dL_isBoard_240 : decode cL_isBoard 240 = .ok (.ifCond .eq 12, 3) := by decide +kernel
theorem dL_isBoard_243 : decode cL_isBoard 243 = .ok (.aload_n 0, 1) := by decide +kernel
theorem dL_isBoard_244 : decode cL_isBoard 244 = .ok (.iconst 5, 1) := by decide +kernel
theorem dL_isBoard_245 : decode cL_isBoard 245 = .ok (.invokevirtual 58, 3) := by decide +kernel
theorem dL_isBoard_248 : decode cL_isBoard 248 = .ok (.iconst 1, 1) := by decide +kernel
theorem dL_isBoard_249 : decode cL_isBoard 249 = .ok (.if_icmp .ne 7, 3) := by decide +kernel
theorem dL_isBoard_252 : decode cL_isBoard 252 = .ok (.iconst 1, 1) := by decide +kernel
theorem dL_isBoard_253 : decode cL_isBoard 253 = .ok (.goto 4, 3) := by decide +kernel
theorem dL_isBoard_256 : decode cL_isBoard 256 = .ok (.iconst 0, 1) := by decide +kernel
theorem dL_isBoard_257 : decode cL_isBoard 257 = .ok (.ireturn, 1) := by decide +kernel
set_option maxRecDepth 20000 in
theorem ggL_canBe_X4_canBe : GoodIn wsL_canBe wsX4_canBe := goodIn_ca (goodIn_ca (goodIn_r _ [5, 6, 7, 8, 9, 4, 10, 11, 12, 13, 14, 15, 16, 17, 18, 19, 20, 21, 22, 23, 24, 25, 26, 27, 28, 29, 30, 31, 32, 33, 34, 35, 36, 37, 38, 39, 40, 41, 42, 43, 44, 45, 46, 47, 48, 49, 50, 51, 52, 53, 54, 55, 56, 57, 58, 59, 60, 61, 62, 63, 64, 65, 66, 67, 68, 69, 70, 71, 72, 73, 74, 75, 76, 77, 94, 95, 96, 97, 98, 99, 100, 101, 102, 103, 104] (by decide +kernel) (by decide +kernel)) (goodIn_sub (fun _ h => List.mem_cons_of_mem _ (List.mem_append_left _ (List.mem_append_right _ h))) (by decide +kernel))) (goodIn_sub (fun _ h => List.mem_cons_of_mem _ (List.mem_append_right _ h)) (by decide +kernel))
set_option maxRecDepth 20000 in
theorem gL_canBe_X4_canBe : GoodIn wsL_canBe (wsV RL 61 RX4 yX4_canBe wsX4_canBe) := goodIn_app (goodIn_of _ (by decide +kernel)) ggL_canBe_X4_canBe
set_option maxRecDepth 20000 in
theorem ggL_canBe_L_isSound : GoodIn wsL_canBe wsL_isSound := goodIn_r _ [81, 82, 83, 80, 84, 85, 86, 87, 88, 89, 90, 91, 92, 93] (by decide +kernel) (by decide +kernel)
set_option maxRecDepth 20000 in
theorem gL_canBe_L_isSound : GoodIn wsL_canBe (va_wsS RL 37 yL_isSound wsL_isSound) := goodIn_app (goodIn_of _ (by decide +kernel)) ggL_canBe_L_isSound
theorem dL_canBe_0 : decode cL_canBe 0 = .ok (.iconst 1, 1) := by decide +kernel
theorem dL_canBe_1 : decode cL_canBe 1 = .ok (.istore 4, 2) := by decide +kernel
theorem dL_canBe_3 : decode cL_canBe 3 = .ok (.aload_n 1, 1) := by decide +kernel
theorem dL_canBe_4 : decode cL_canBe 4 = .ok (.iload_n 3, 1) := by decide +kernel
theorem dL_canBe_5 : decode cL_canBe 5 = .ok (.iaload, 1) := by decide +kernel
theorem dL_canBe_6 : decode cL_canBe 6 = .ok (.istore 5, 2) := by decide +kernel
theorem dL_canBe_8 : decode cL_canBe 8 = .ok (.iconst 1, 1) := by decide +kernel
theorem dL_canBe_9 : decode cL_canBe 9 = .ok (.istore 6, 2) := by decide +kernel
theorem dL_canBe_11 : decode cL_canBe 11 = .ok (.iload 6, 2) := by decide +kernel
theorem dL_canBe_13 : decode cL_canBe 13 = .ok (.bipush 10, 2) := by decide +kernel
theorem dL_canBe_15 : decode cL_canBe 15 = .ok (.if_icmp .ge 64, 3) := by decide +kernel
theorem dL_canBe_18 : decode cL_canBe 18 = .ok (.iload 4, 2) := by decide +kernel
theorem dL_canBe_20 : decode cL_canBe 20 = .ok (.ifCond .eq 59, 3) := by decide +kernel
theorem dL_canBe_23 : decode cL_canBe 23 = .ok (.aload_n 1, 1) := by decide +kernel
theorem dL_canBe_24 : decode cL_canBe 24 = .ok (.iload_n 3, 1) := by decide +kernel
theorem dL_canBe_25 : decode cL_canBe 25 = .ok (.iload 5, 2) := by decide +kernel
theorem dL_canBe_27 : decode cL_canBe 27 = .ok (.ifCond .ne 8, 3) := by decide +kernel
theorem dL_canBe_30 : decode cL_canBe 30 = .ok (.iload 6, 2) := by decide +kernel
theorem dL_canBe_32 : decode cL_canBe 32 = .ok (.goto 5, 3) := by decide +kernel
theorem dL_canBe_35 : decode cL_canBe 35 = .ok (.iload 5, 2) := by decide +kernel
theorem dL_canBe_37 : decode cL_canBe 37 = .ok (.iastore, 1) := by decide +kernel
theorem dL_canBe_38 : decode cL_canBe 38 = .ok (.aload_n 0, 1) := by decide +kernel
theorem dL_canBe_39 : decode cL_canBe 39 = .ok (.iload_n 3, 1) := by decide +kernel
theorem dL_canBe_40 : decode cL_canBe 40 = .ok (.iload 6, 2) := by decide +kernel
theorem dL_canBe_42 : decode cL_canBe 42 = .ok (.invokevirtual 61, 3) := by decide +kernel
theorem dL_canBe_45 : decode cL_canBe 45 = .ok (.iload 5, 2) := by decide +kernel
theorem dL_canBe_47 : decode cL_canBe 47 = .ok (.ifCond .ne 15, 3) := by decide +kernel
theorem dL_canBe_50 : decode cL_canBe 50 = .ok (.aload_n 1, 1) := by decide +kernel
theorem dL_canBe_51 : decode cL_canBe 51 = .ok (.aload_n 2, 1) := by decide +kernel
theorem dL_canBe_52 : decode cL_canBe 52 = .ok (.invokestatic 37, 3) := by decide +kernel
theorem dL_canBe_55 : decode cL_canBe 55 = .ok (.ifCond .eq 7, 3) := by decide +kernel
theorem dL_canBe_58 : decode cL_canBe 58 = .ok (.iconst 1, 1) := by decide +kernel
theorem dL_canBe_59 : decode cL_canBe 59 = .ok (.goto 4, 3) := by decide +kernel
theorem dL_canBe_62 : decode cL_canBe 62 = .ok (.iconst 0, 1) := by decide +kernel
theorem dL_canBe_63 : decode cL_canBe 63 = .ok (.if_icmp .ne 7, 3) := by decide +kernel
theorem dL_canBe_66 : decode cL_canBe 66 = .ok (.iconst 1, 1) := by decide +kernel
theorem dL_canBe_67 : decode cL_canBe 67 = .ok (.goto 4, 3) := by decide +kernel
theorem dL_canBe_70 : decode cL_canBe 70 = .ok (.iconst 0, 1) := by decide +kernel
theorem dL_canBe_71 : decode cL_canBe 71 = .ok (.istore 4, 2) := by decide +kernel
theorem dL_canBe_73 : decode cL_canBe 73 = .ok (.iinc 6 1, 3) := by decide +kernel
theorem dL_canBe_76 : decode cL_canBe 76 = .ok (.goto (-65), 3) := by decide +kernel
theorem dL_canBe_79 : decode cL_canBe 79 = .ok (.aload_n 1, 1) := by decide +kernel
theorem dL_canBe_80 : decode cL_canBe 80 = .ok (.iload_n 3, 1) := by decide +kernel
theorem dL_canBe_81 : decode cL_canBe 81 = .ok (.iload 5, 2) := by decide +kernel
theorem dL_canBe_83 : decode cL_canBe 83 = .ok (.iastore, 1) := by decide +kernel
theorem dL_canBe_84 : decode cL_canBe 84 = .ok (.iload 4, 2) := by decide +kernel
theorem dL_canBe_86 : decode cL_canBe 86 = .ok (.ireturn, 1) := by decide +kernel
set_option maxRecDepth 20000 in
theorem ggL_areShapes_X4_shapes : GoodIn wsL_areShapes wsX4_shapes := goodIn_ca (goodIn_r _ [5, 6, 7, 8, 9, 10, 4, 11, 12, 13, 14, 15, 16, 17, 18, 19, 20, 21, 22, 23, 24, 25, 26, 27, 28, 29, 30, 31, 32, 33, 34, 35, 36, 37, 38, 39, 40, 41, 42, 43, 44, 45, 46, 47, 48, 49, 50, 51, 52, 53, 54, 55, 56, 57, 58, 59, 60, 61, 62, 63, 64, 65, 66, 67, 68, 69, 70, 71, 72, 73, 74, 75, 76, 77, 78, 79, 80, 81, 82, 103, 104, 105, 106, 107, 108, 109, 110, 111, 112, 113, 114, 115, 116] (by decide +kernel) (by decide +kernel)) (goodIn_sub (fun _ h => List.mem_cons_of_mem _ (List.mem_append_right _ h)) (by decide +kernel))
set_option maxRecDepth 20000 in
theorem gL_areShapes_X4_shapes : GoodIn wsL_areShapes (wsV RL 65 RX4 yX4_shapes wsX4_shapes) := goodIn_app (goodIn_of _ (by decide +kernel)) ggL_areShapes_X4_shapes
set_option maxRecDepth 20000 in
theorem ggL_areShapes_L_cellsOf : GoodIn wsL_areShapes wsL_cellsOf := goodIn_r _ [86] (by decide +kernel) (by decide +kernel)
set_option maxRecDepth 20000 in
theorem gL_areShapes_L_cellsOf : GoodIn wsL_areShapes (va_wsS RL 16 yL_cellsOf wsL_cellsOf) := goodIn_app (goodIn_of _ (by decide +kernel)) ggL_areShapes_L_cellsOf
set_option maxRecDepth 20000 in
theorem ggL_areShapes_L_over : GoodIn wsL_areShapes wsL_over := goodIn_r _ [89, 90, 91, 85, 92] (by decide +kernel) (by decide +kernel)
set_option maxRecDepth 20000 in
theorem gL_areShapes_L_over : GoodIn wsL_areShapes (va_wsS RL 20 yL_over wsL_over) := goodIn_app (goodIn_of _ (by decide +kernel)) ggL_areShapes_L_over
set_option maxRecDepth 20000 in
theorem ggL_areShapes_X4_shapesWith : GoodIn wsL_areShapes wsX4_shapesWith := goodIn_ca (goodIn_r _ [96, 6, 7, 8, 9, 10, 4, 11, 12, 13, 14, 15, 16, 17, 18, 19, 20, 21, 22, 23, 24, 25, 26, 27, 28, 29, 30, 31, 32, 33, 34, 35, 36, 37, 38, 39, 40, 41, 42, 43, 44, 45, 46, 47, 48, 49, 50, 51, 52, 53, 54, 55, 56, 57, 58, 59, 60, 61, 62, 63, 64, 65, 66, 67, 68, 69, 70, 71, 72, 73, 74, 75, 76, 77, 78, 79, 80, 81, 82, 97, 98, 99, 103, 104, 105, 106, 107, 108, 112, 113, 114, 115, 116, 109, 110, 111] (by decide +kernel) (by decide +kernel)) (goodIn_sub (fun _ h => List.mem_cons_of_mem _ (List.mem_append_right _ h)) (by decide +kernel))
set_option maxRecDepth 20000 in
theorem gL_areShapes_X4_shapesWith : GoodIn wsL_areShapes (wsV RL 68 RX4 yX4_shapesWith wsX4_shapesWith) := goodIn_app (goodIn_of _ (by decide +kernel)) ggL_areShapes_X4_shapesWith
set_option maxRecDepth 20000 in
theorem ggL_areShapes_L_many : GoodIn wsL_areShapes wsL_many := goodIn_r _ [102] (by decide +kernel) (by decide +kernel)
set_option maxRecDepth 20000 in
theorem gL_areShapes_L_many : GoodIn wsL_areShapes (va_wsS RL 24 yL_many wsL_many) := goodIn_app (goodIn_of _ (by decide +kernel)) ggL_areShapes_L_many
theorem dL_areShapes_0 : decode cL_areShapes 0 = .ok (.aload_n 0, 1) := by decide +kernel
theorem dL_areShapes_1 : decode cL_areShapes 1 = .ok (.iload_n 3, 1) := by decide +kernel
theorem dL_areShapes_2 : decode cL_areShapes 2 = .ok (.invokevirtual 65, 3) := by decide +kernel
theorem dL_areShapes_5 : decode cL_areShapes 5 = .ok (.istore 4, 2) := by decide +kernel
theorem dL_areShapes_7 : decode cL_areShapes 7 = .ok (.iconst 0, 1) := by decide +kernel
theorem dL_areShapes_8 : decode cL_areShapes 8 = .ok (.istore 5, 2) := by decide +kernel
theorem dL_areShapes_10 : decode cL_areShapes 10 = .ok (.iload 4, 2) := by decide +kernel
theorem dL_areShapes_12 : decode cL_areShapes 12 = .ok (.ifCond .lt 18, 3) := by decide +kernel
theorem dL_areShapes_15 : decode cL_areShapes 15 = .ok (.aload_n 1, 1) := by decide +kernel
theorem dL_areShapes_16 : decode cL_areShapes 16 = .ok (.iload_n 3, 1) := by decide +kernel
theorem dL_areShapes_17 : decode cL_areShapes 17 = .ok (.iaload, 1) := by decide +kernel
theorem dL_areShapes_18 : decode cL_areShapes 18 = .ok (.ifCond .gt 8, 3) := by decide +kernel
theorem dL_areShapes_21 : decode cL_areShapes 21 = .ok (.iload 4, 2) := by decide +kernel
theorem dL_areShapes_23 : decode cL_areShapes 23 = .ok (.ifCond .ne 7, 3) := by decide +kernel
theorem dL_areShapes_26 : decode cL_areShapes 26 = .ok (.iconst 1, 1) := by decide +kernel
theorem dL_areShapes_27 : decode cL_areShapes 27 = .ok (.goto 4, 3) := by decide +kernel
theorem dL_areShapes_30 : decode cL_areShapes 30 = .ok (.iconst 0, 1) := by decide +kernel
theorem dL_areShapes_31 : decode cL_areShapes 31 = .ok (.istore 6, 2) := by decide +kernel
theorem dL_areShapes_33 : decode cL_areShapes 33 = .ok (.aload_n 1, 1) := by decide +kernel
theorem dL_areShapes_34 : decode cL_areShapes 34 = .ok (.iload_n 3, 1) := by decide +kernel
theorem dL_areShapes_35 : decode cL_areShapes 35 = .ok (.iaload, 1) := by decide +kernel
theorem dL_areShapes_36 : decode cL_areShapes 36 = .ok (.ifCond .ne 7, 3) := by decide +kernel
theorem dL_areShapes_39 : decode cL_areShapes 39 = .ok (.iconst 0, 1) := by decide +kernel
theorem dL_areShapes_40 : decode cL_areShapes 40 = .ok (.goto 16, 3) := by decide +kernel
theorem dL_areShapes_43 : decode cL_areShapes 43 = .ok (.aload_n 2, 1) := by decide +kernel
theorem dL_areShapes_44 : decode cL_areShapes 44 = .ok (.iload_n 3, 1) := by decide +kernel
theorem dL_areShapes_45 : decode cL_areShapes 45 = .ok (.aload_n 1, 1) := by decide +kernel
theorem dL_areShapes_46 : decode cL_areShapes 46 = .ok (.aload_n 2, 1) := by decide +kernel
theorem dL_areShapes_47 : decode cL_areShapes 47 = .ok (.aload_n 1, 1) := by decide +kernel
theorem dL_areShapes_48 : decode cL_areShapes 48 = .ok (.iload_n 3, 1) := by decide +kernel
theorem dL_areShapes_49 : decode cL_areShapes 49 = .ok (.iaload, 1) := by decide +kernel
theorem dL_areShapes_50 : decode cL_areShapes 50 = .ok (.invokestatic 16, 3) := by decide +kernel
theorem dL_areShapes_53 : decode cL_areShapes 53 = .ok (.invokestatic 20, 3) := by decide +kernel
theorem dL_areShapes_56 : decode cL_areShapes 56 = .ok (.istore 7, 2) := by decide +kernel
theorem dL_areShapes_58 : decode cL_areShapes 58 = .ok (.iconst 0, 1) := by decide +kernel
theorem dL_areShapes_59 : decode cL_areShapes 59 = .ok (.istore 8, 2) := by decide +kernel
theorem dL_areShapes_61 : decode cL_areShapes 61 = .ok (.iload 8, 2) := by decide +kernel
theorem dL_areShapes_63 : decode cL_areShapes 63 = .ok (.aload_n 2, 1) := by decide +kernel
theorem dL_areShapes_64 : decode cL_areShapes 64 = .ok (.iconst 0, 1) := by decide +kernel
theorem dL_areShapes_65 : decode cL_areShapes 65 = .ok (.iaload, 1) := by decide +kernel
theorem dL_areShapes_66 : decode cL_areShapes 66 = .ok (.aload_n 2, 1) := by decide +kernel
theorem dL_areShapes_67 : decode cL_areShapes 67 = .ok (.iconst 1, 1) := by decide +kernel
theorem dL_areShapes_68 : decode cL_areShapes 68 = .ok (.iaload, 1) := by decide +kernel
theorem dL_areShapes_69 : decode cL_areShapes 69 = .ok (.imul, 1) := by decide +kernel
theorem dL_areShapes_70 : decode cL_areShapes 70 = .ok (.if_icmp .ge 88, 3) := by decide +kernel
theorem dL_areShapes_73 : decode cL_areShapes 73 = .ok (.iload 6, 2) := by decide +kernel
theorem dL_areShapes_75 : decode cL_areShapes 75 = .ok (.ifCond .eq 83, 3) := by decide +kernel
theorem dL_areShapes_78 : decode cL_areShapes 78 = .ok (.aload_n 0, 1) := by decide +kernel
theorem dL_areShapes_79 : decode cL_areShapes 79 = .ok (.iload_n 3, 1) := by decide +kernel
theorem dL_areShapes_80 : decode cL_areShapes 80 = .ok (.iload 8, 2) := by decide +kernel
theorem dL_areShapes_82 : decode cL_areShapes 82 = .ok (.invokevirtual 68, 3) := by decide +kernel
theorem dL_areShapes_85 : decode cL_areShapes 85 = .ok (.istore 9, 2) := by decide +kernel
theorem dL_areShapes_87 : decode cL_areShapes 87 = .ok (.iload 5, 2) := by decide +kernel
theorem dL_areShapes_89 : decode cL_areShapes 89 = .ok (.iload 9, 2) := by decide +kernel
theorem dL_areShapes_91 : decode cL_areShapes 91 = .ok (.iadd, 1) := by decide +kernel
theorem dL_areShapes_92 : decode cL_areShapes 92 = .ok (.istore 5, 2) := by decide +kernel
theorem dL_areShapes_94 : decode cL_areShapes 94 = .ok (.iload 9, 2) := by decide +kernel
theorem dL_areShapes_96 : decode cL_areShapes 96 = .ok (.ifCond .lt 53, 3) := by decide +kernel
theorem dL_areShapes_99 : decode cL_areShapes 99 = .ok (.iload 9, 2) := by decide +kernel
theorem dL_areShapes_101 : decode cL_areShapes 101 = .ok (.iload 4, 2) := by decide +kernel
theorem dL_areShapes_103 : decode cL_areShapes 103 = .ok (.if_icmp .gt 46, 3) := by decide +kernel
theorem dL_areShapes_106 : decode cL_areShapes 106 = .ok (.iload 7, 2) := by decide +kernel
theorem dL_areShapes_108 : decode cL_areShapes 108 = .ok (.iload 8, 2) := by decide +kernel
theorem dL_areShapes_110 : decode cL_areShapes 110 = .ok (.ishr, 1) := by decide +kernel
theorem dL_areShapes_111 : decode cL_areShapes 111 = .ok (.iconst 1, 1) := by decide +kernel
theorem dL_areShapes_112 : decode cL_areShapes 112 = .ok (.iand, 1) := by decide +kernel
theorem dL_areShapes_113 : decode cL_areShapes 113 = .ok (.ifCond .eq 10, 3) := by decide +kernel
theorem dL_areShapes_116 : decode cL_areShapes 116 = .ok (.iload 9, 2) := by decide +kernel
theorem dL_areShapes_118 : decode cL_areShapes 118 = .ok (.iload 4, 2) := by decide +kernel
theorem dL_areShapes_120 : decode cL_areShapes 120 = .ok (.if_icmp .ne 29, 3) := by decide +kernel
theorem dL_areShapes_123 : decode cL_areShapes 123 = .ok (.aload_n 1, 1) := by decide +kernel
theorem dL_areShapes_124 : decode cL_areShapes 124 = .ok (.iload 8, 2) := by decide +kernel
theorem dL_areShapes_126 : decode cL_areShapes 126 = .ok (.iaload, 1) := by decide +kernel
theorem dL_areShapes_127 : decode cL_areShapes 127 = .ok (.ifCond .eq 18, 3) := by decide +kernel
theorem dL_areShapes_130 : decode cL_areShapes 130 = .ok (.aload_n 1, 1) := by decide +kernel
theorem dL_areShapes_131 : decode cL_areShapes 131 = .ok (.iload 8, 2) := by decide +kernel
theorem dL_areShapes_133 : decode cL_areShapes 133 = .ok (.iaload, 1) := by decide +kernel
theorem dL_areShapes_134 : decode cL_areShapes 134 = .ok (.aload_n 1, 1) := by decide +kernel
theorem dL_areShapes_135 : decode cL_areShapes 135 = .ok (.iload_n 3, 1) := by decide +kernel
theorem dL_areShapes_136 : decode cL_areShapes 136 = .ok (.iaload, 1) := by decide +kernel
theorem dL_areShapes_137 : decode cL_areShapes 137 = .ok (.if_icmp .eq 8, 3) := by decide +kernel
theorem dL_areShapes_140 : decode cL_areShapes 140 = .ok (.iload 9, 2) := by decide +kernel
theorem dL_areShapes_142 : decode cL_areShapes 142 = .ok (.ifCond .ne 7, 3) := by decide +kernel
theorem dL_areShapes_145 : decode cL_areShapes 145 = .ok (.iconst 1, 1) := by decide +kernel
theorem dL_areShapes_146 : decode cL_areShapes 146 = .ok (.goto 4, 3) := by decide +kernel
theorem dL_areShapes_149 : decode cL_areShapes 149 = .ok (.iconst 0, 1) := by decide +kernel
theorem dL_areShapes_150 : decode cL_areShapes 150 = .ok (.istore 6, 2) := by decide +kernel
theorem dL_areShapes_152 : decode cL_areShapes 152 = .ok (.iinc 8 1, 3) := by decide +kernel
theorem dL_areShapes_155 : decode cL_areShapes 155 = .ok (.goto (-94), 3) := by decide +kernel
theorem dL_areShapes_158 : decode cL_areShapes 158 = .ok (.iload 6, 2) := by decide +kernel
theorem dL_areShapes_160 : decode cL_areShapes 160 = .ok (.ifCond .eq 41, 3) := by decide +kernel
theorem dL_areShapes_163 : decode cL_areShapes 163 = .ok (.iload 5, 2) := by decide +kernel
theorem dL_areShapes_165 : decode cL_areShapes 165 = .ok (.iload 4, 2) := by decide +kernel
theorem dL_areShapes_167 : decode cL_areShapes 167 = .ok (.aload_n 1, 1) := by decide +kernel
theorem dL_areShapes_168 : decode cL_areShapes 168 = .ok (.iload_n 3, 1) := by decide +kernel
theorem dL_areShapes_169 : decode cL_areShapes 169 = .ok (.iaload, 1) := by decide +kernel
theorem dL_areShapes_170 : decode cL_areShapes 170 = .ok (.imul, 1) := by decide +kernel
theorem dL_areShapes_171 : decode cL_areShapes 171 = .ok (.if_icmp .ne 30, 3) := by decide +kernel
theorem dL_areShapes_174 : decode cL_areShapes 174 = .ok (.iload 7, 2) := by decide +kernel
theorem dL_areShapes_176 : decode cL_areShapes 176 = .ok (.invokestatic 24, 3) := by decide +kernel
theorem dL_areShapes_179 : decode cL_areShapes 179 = .ok (.aload_n 1, 1) := by decide +kernel
theorem dL_areShapes_180 : decode cL_areShapes 180 = .ok (.iload_n 3, 1) := by decide +kernel
theorem dL_areShapes_181 : decode cL_areShapes 181 = .ok (.iaload, 1) := by decide +kernel
theorem dL_areShapes_182 : decode cL_areShapes 182 = .ok (.if_icmp .lt 15, 3) := by decide +kernel
theorem dL_areShapes_185 : decode cL_areShapes 185 = .ok (.aload_n 1, 1) := by decide +kernel
theorem dL_areShapes_186 : decode cL_areShapes 186 = .ok (.iload_n 3, 1) := by decide +kernel
theorem dL_areShapes_187 : decode cL_areShapes 187 = .ok (.iaload, 1) := by decide +kernel
theorem dL_areShapes_188 : decode cL_areShapes 188 = .ok (.ifCond .eq 9, 3) := by decide +kernel
theorem dL_areShapes_191 : decode cL_areShapes 191 = .ok (.iload 4, 2) := by decide +kernel
theorem dL_areShapes_193 : decode cL_areShapes 193 = .ok (.iconst 1, 1) := by decide +kernel
theorem dL_areShapes_194 : decode cL_areShapes 194 = .ok (.if_icmp .ne 7, 3) := by decide +kernel
theorem dL_areShapes_197 : decode cL_areShapes 197 = .ok (.iconst 1, 1) := by decide +kernel
theorem dL_areShapes_198 : decode cL_areShapes 198 = .ok (.goto 4, 3) := by decide +kernel
theorem dL_areShapes_201 : decode cL_areShapes 201 = .ok (.iconst 0, 1) := by decide +kernel
theorem dL_areShapes_202 : decode cL_areShapes 202 = .ok (.ireturn, 1) := by decide +kernel
set_option maxRecDepth 20000 in
theorem ggL_isHidden_X4_isHidden : GoodIn wsL_isHidden wsX4_isHidden := goodIn_ca (goodIn_r _ [5, 6, 7, 8, 9, 4, 10, 11, 12, 13, 14, 15, 16, 17, 18, 19, 20, 21, 22, 23, 24, 25, 26, 27, 28, 29, 30, 31, 32, 33, 34, 35, 36, 37, 38, 39, 40, 41, 42, 43, 44, 45, 46, 47, 48, 49, 50, 51, 52, 53, 54, 55, 73, 74, 75, 76, 77, 78, 79, 80, 81, 82, 83] (by decide +kernel) (by decide +kernel)) (goodIn_sub (fun _ h => List.mem_cons_of_mem _ (List.mem_append_right _ h)) (by decide +kernel))
set_option maxRecDepth 20000 in
theorem gL_isHidden_X4_isHidden : GoodIn wsL_isHidden (wsV RL 72 RX4 yX4_isHidden wsX4_isHidden) := goodIn_app (goodIn_of _ (by decide +kernel)) ggL_isHidden_X4_isHidden
set_option maxRecDepth 20000 in
theorem ggL_isHidden_L_areNext : GoodIn wsL_isHidden wsL_areNext := goodIn_r _ [59] (by decide +kernel) (by decide +kernel)
set_option maxRecDepth 20000 in
theorem gL_isHidden_L_areNext : GoodIn wsL_isHidden (va_wsS RL 10 yL_areNext wsL_areNext) := goodIn_app (goodIn_of _ (by decide +kernel)) ggL_isHidden_L_areNext
set_option maxRecDepth 20000 in
theorem ggL_isHidden_X4_size : GoodIn wsL_isHidden wsX4_size := goodIn_ca (goodIn_r _ [63, 6, 7, 8, 9, 4, 10, 11, 12, 13, 14, 15, 16, 17, 18, 19, 20, 21, 22, 23, 24, 64, 65, 66, 67, 68, 69, 70, 32, 71, 51, 52, 53, 54, 55, 28, 29, 30, 31, 36, 37, 38, 39, 40, 41, 42, 43, 44, 45, 46, 72, 73, 74, 75, 76, 77, 78, 79, 80, 81, 82, 83] (by decide +kernel) (by decide +kernel)) (goodIn_sub (fun _ h => List.mem_cons_of_mem _ (List.mem_append_right _ h)) (by decide +kernel))
set_option maxRecDepth 20000 in
theorem gL_isHidden_X4_size : GoodIn wsL_isHidden (wsV RL 48 RX4 yX4_size wsX4_size) := goodIn_app (goodIn_of _ (by decide +kernel)) ggL_isHidden_X4_size
theorem dL_isHidden_0 : decode cL_isHidden 0 = .ok (.aload_n 1, 1) := by decide +kernel
theorem dL_isHidden_1 : decode cL_isHidden 1 = .ok (.iload_n 3, 1) := by decide +kernel
theorem dL_isHidden_2 : decode cL_isHidden 2 = .ok (.iaload, 1) := by decide +kernel
theorem dL_isHidden_3 : decode cL_isHidden 3 = .ok (.ifCond .le 17, 3) := by decide +kernel
theorem dL_isHidden_6 : decode cL_isHidden 6 = .ok (.aload_n 0, 1) := by decide +kernel
theorem dL_isHidden_7 : decode cL_isHidden 7 = .ok (.iload_n 3, 1) := by decide +kernel
theorem dL_isHidden_8 : decode cL_isHidden 8 = .ok (.invokevirtual 72, 3) := by decide +kernel
theorem dL_isHidden_11 : decode cL_isHidden 11 = .ok (.ifCond .ne 7, 3) := by decide +kernel
theorem dL_isHidden_14 : decode cL_isHidden 14 = .ok (.iconst 1, 1) := by decide +kernel
theorem dL_isHidden_15 : decode cL_isHidden 15 = .ok (.goto 4, 3) := by decide +kernel
theorem dL_isHidden_18 : decode cL_isHidden 18 = .ok (.iconst 0, 1) := by decide +kernel
theorem dL_isHidden_19 : decode cL_isHidden 19 = .ok (.ireturn, 1) := by decide +kernel
theorem dL_isHidden_20 : decode cL_isHidden 20 = .ok (.iconst 0, 1) := by decide +kernel
theorem dL_isHidden_21 : decode cL_isHidden 21 = .ok (.istore 4, 2) := by decide +kernel
theorem dL_isHidden_23 : decode cL_isHidden 23 = .ok (.iconst 0, 1) := by decide +kernel
theorem dL_isHidden_24 : decode cL_isHidden 24 = .ok (.istore 5, 2) := by decide +kernel
theorem dL_isHidden_26 : decode cL_isHidden 26 = .ok (.iconst 0, 1) := by decide +kernel
theorem dL_isHidden_27 : decode cL_isHidden 27 = .ok (.istore 6, 2) := by decide +kernel
theorem dL_isHidden_29 : decode cL_isHidden 29 = .ok (.iload 6, 2) := by decide +kernel
theorem dL_isHidden_31 : decode cL_isHidden 31 = .ok (.aload_n 2, 1) := by decide +kernel
theorem dL_isHidden_32 : decode cL_isHidden 32 = .ok (.iconst 0, 1) := by decide +kernel
theorem dL_isHidden_33 : decode cL_isHidden 33 = .ok (.iaload, 1) := by decide +kernel
theorem dL_isHidden_34 : decode cL_isHidden 34 = .ok (.aload_n 2, 1) := by decide +kernel
theorem dL_isHidden_35 : decode cL_isHidden 35 = .ok (.iconst 1, 1) := by decide +kernel
theorem dL_isHidden_36 : decode cL_isHidden 36 = .ok (.iaload, 1) := by decide +kernel
theorem dL_isHidden_37 : decode cL_isHidden 37 = .ok (.imul, 1) := by decide +kernel
theorem dL_isHidden_38 : decode cL_isHidden 38 = .ok (.if_icmp .ge 70, 3) := by decide +kernel
theorem dL_isHidden_41 : decode cL_isHidden 41 = .ok (.aload_n 2, 1) := by decide +kernel
theorem dL_isHidden_42 : decode cL_isHidden 42 = .ok (.iload 6, 2) := by decide +kernel
theorem dL_isHidden_44 : decode cL_isHidden 44 = .ok (.iload_n 3, 1) := by decide +kernel
theorem dL_isHidden_45 : decode cL_isHidden 45 = .ok (.invokestatic 10, 3) := by decide +kernel
theorem dL_isHidden_48 : decode cL_isHidden 48 = .ok (.ifCond .eq 54, 3) := by decide +kernel
theorem dL_isHidden_51 : decode cL_isHidden 51 = .ok (.iload 4, 2) := by decide +kernel
theorem dL_isHidden_53 : decode cL_isHidden 53 = .ok (.ifCond .ne 23, 3) := by decide +kernel
theorem dL_isHidden_56 : decode cL_isHidden 56 = .ok (.aload_n 1, 1) := by decide +kernel
theorem dL_isHidden_57 : decode cL_isHidden 57 = .ok (.iload 6, 2) := by decide +kernel
theorem dL_isHidden_59 : decode cL_isHidden 59 = .ok (.iaload, 1) := by decide +kernel
theorem dL_isHidden_60 : decode cL_isHidden 60 = .ok (.ifCond .le 20, 3) := by decide +kernel
theorem dL_isHidden_63 : decode cL_isHidden 63 = .ok (.aload_n 0, 1) := by decide +kernel
theorem dL_isHidden_64 : decode cL_isHidden 64 = .ok (.iload 6, 2) := by decide +kernel
theorem dL_isHidden_66 : decode cL_isHidden 66 = .ok (.invokevirtual 48, 3) := by decide +kernel
theorem dL_isHidden_69 : decode cL_isHidden 69 = .ok (.aload_n 1, 1) := by decide +kernel
theorem dL_isHidden_70 : decode cL_isHidden 70 = .ok (.iload 6, 2) := by decide +kernel
theorem dL_isHidden_72 : decode cL_isHidden 72 = .ok (.iaload, 1) := by decide +kernel
theorem dL_isHidden_73 : decode cL_isHidden 73 = .ok (.if_icmp .ge 7, 3) := by decide +kernel
theorem dL_isHidden_76 : decode cL_isHidden 76 = .ok (.iconst 1, 1) := by decide +kernel
theorem dL_isHidden_77 : decode cL_isHidden 77 = .ok (.goto 4, 3) := by decide +kernel
theorem dL_isHidden_80 : decode cL_isHidden 80 = .ok (.iconst 0, 1) := by decide +kernel
theorem dL_isHidden_81 : decode cL_isHidden 81 = .ok (.istore 4, 2) := by decide +kernel
theorem dL_isHidden_83 : decode cL_isHidden 83 = .ok (.iload 5, 2) := by decide +kernel
theorem dL_isHidden_85 : decode cL_isHidden 85 = .ok (.ifCond .ne 10, 3) := by decide +kernel
theorem dL_isHidden_88 : decode cL_isHidden 88 = .ok (.aload_n 1, 1) := by decide +kernel
theorem dL_isHidden_89 : decode cL_isHidden 89 = .ok (.iload 6, 2) := by decide +kernel
theorem dL_isHidden_91 : decode cL_isHidden 91 = .ok (.iaload, 1) := by decide +kernel
theorem dL_isHidden_92 : decode cL_isHidden 92 = .ok (.ifCond .ne 7, 3) := by decide +kernel
theorem dL_isHidden_95 : decode cL_isHidden 95 = .ok (.iconst 1, 1) := by decide +kernel
theorem dL_isHidden_96 : decode cL_isHidden 96 = .ok (.goto 4, 3) := by decide +kernel
theorem dL_isHidden_99 : decode cL_isHidden 99 = .ok (.iconst 0, 1) := by decide +kernel
theorem dL_isHidden_100 : decode cL_isHidden 100 = .ok (.istore 5, 2) := by decide +kernel
theorem dL_isHidden_102 : decode cL_isHidden 102 = .ok (.iinc 6 1, 3) := by decide +kernel
theorem dL_isHidden_105 : decode cL_isHidden 105 = .ok (.goto (-76), 3) := by decide +kernel
theorem dL_isHidden_108 : decode cL_isHidden 108 = .ok (.iload 4, 2) := by decide +kernel
theorem dL_isHidden_110 : decode cL_isHidden 110 = .ok (.ifCond .eq 19, 3) := by decide +kernel
theorem dL_isHidden_113 : decode cL_isHidden 113 = .ok (.aload_n 0, 1) := by decide +kernel
theorem dL_isHidden_114 : decode cL_isHidden 114 = .ok (.iload_n 3, 1) := by decide +kernel
theorem dL_isHidden_115 : decode cL_isHidden 115 = .ok (.invokevirtual 72, 3) := by decide +kernel
theorem dL_isHidden_118 : decode cL_isHidden 118 = .ok (.ifCond .ne 7, 3) := by decide +kernel
theorem dL_isHidden_121 : decode cL_isHidden 121 = .ok (.iconst 1, 1) := by decide +kernel
theorem dL_isHidden_122 : decode cL_isHidden 122 = .ok (.goto 25, 3) := by decide +kernel
theorem dL_isHidden_125 : decode cL_isHidden 125 = .ok (.iconst 0, 1) := by decide +kernel
theorem dL_isHidden_126 : decode cL_isHidden 126 = .ok (.goto 21, 3) := by decide +kernel
theorem dL_isHidden_129 : decode cL_isHidden 129 = .ok (.iload 5, 2) := by decide +kernel
theorem dL_isHidden_131 : decode cL_isHidden 131 = .ok (.ifCond .ne 11, 3) := by decide +kernel
theorem dL_isHidden_134 : decode cL_isHidden 134 = .ok (.aload_n 0, 1) := by decide +kernel
theorem dL_isHidden_135 : decode cL_isHidden 135 = .ok (.iload_n 3, 1) := by decide +kernel
theorem dL_isHidden_136 : decode cL_isHidden 136 = .ok (.invokevirtual 72, 3) := by decide +kernel
theorem dL_isHidden_139 : decode cL_isHidden 139 = .ok (.ifCond .eq 7, 3) := by decide +kernel
theorem dL_isHidden_142 : decode cL_isHidden 142 = .ok (.iconst 1, 1) := by decide +kernel
theorem dL_isHidden_143 : decode cL_isHidden 143 = .ok (.goto 4, 3) := by decide +kernel
theorem dL_isHidden_146 : decode cL_isHidden 146 = .ok (.iconst 0, 1) := by decide +kernel
theorem dL_isHidden_147 : decode cL_isHidden 147 = .ok (.ireturn, 1) := by decide +kernel
set_option maxRecDepth 20000 in
theorem ggL_fills_X4_fill : GoodIn wsL_fills wsX4_fill := goodIn_ca (goodIn_ca (goodIn_ca (goodIn_r _ [6, 7, 8, 9, 10, 11, 12, 5, 13, 14, 15, 16, 17, 18, 19, 20, 21, 22, 23, 24, 25, 26, 27, 28, 29, 30, 31, 32, 33, 34, 35, 36, 37, 38, 39, 40, 41, 42, 43, 44, 45, 46, 47, 48, 49, 50, 51, 52, 53, 54, 55, 56, 57, 58, 59, 60, 61, 62, 63, 64, 65, 66, 67, 68, 69, 70, 71, 72, 73, 74, 75, 76, 77, 78, 79, 80, 81, 82, 83, 84, 85, 86, 87, 88, 89, 90, 91, 92, 93, 94, 95, 96, 97, 98] (by decide +kernel) (by decide +kernel)) (goodIn_sub (fun _ h => List.mem_cons_of_mem _ (List.mem_append_left _ (List.mem_append_left _ (List.mem_append_right _ h)))) (by decide +kernel))) (goodIn_sub (fun _ h => List.mem_cons_of_mem _ (List.mem_append_left _ (List.mem_append_right _ h))) (by decide +kernel))) (goodIn_sub (fun _ h => List.mem_cons_of_mem _ (List.mem_append_right _ h)) (by decide +kernel))
set_option maxRecDepth 20000 in
theorem gL_fills_X4_fill : GoodIn wsL_fills (wsV RL 75 RX4 yX4_fill wsX4_fill) := goodIn_app (goodIn_of _ (by decide +kernel)) ggL_fills_X4_fill
theorem dL_fills_0 : decode cL_fills 0 = .ok (.aload_n 0, 1) := by decide +kernel
theorem dL_fills_1 : decode cL_fills 1 = .ok (.iload_n 1, 1) := by decide +kernel
theorem dL_fills_2 : decode cL_fills 2 = .ok (.iload_n 2, 1) := by decide +kernel
theorem dL_fills_3 : decode cL_fills 3 = .ok (.invokevirtual 75, 3) := by decide +kernel
theorem dL_fills_6 : decode cL_fills 6 = .ok (.ireturn, 1) := by decide +kernel
theorem dL_fills_7 : decode cL_fills 7 = .ok (.astore_n 3, 1) := by decide +kernel
theorem dL_fills_8 : decode cL_fills 8 = .ok (.bipush (-8), 2) := by decide +kernel
theorem dL_fills_10 : decode cL_fills 10 = .ok (.ireturn, 1) := by decide +kernel
set_option maxRecDepth 20000 in
theorem ggL_clues_X4_clue : GoodIn wsL_clues wsX4_clue := goodIn_ca (goodIn_ca (goodIn_ca (goodIn_r _ [6, 7, 8, 9, 10, 11, 12, 5, 13, 14, 15, 16, 17, 18, 19, 20, 21, 22, 23, 24, 25, 26, 27, 28, 29, 30, 31, 32, 33, 34, 35, 36, 37, 38, 39, 40, 41, 42, 43, 44, 45, 46, 47, 48, 49, 50, 51, 52, 53, 54, 55, 56, 57, 58, 59, 60, 61, 62, 63, 64, 65, 66, 67, 68, 69, 70, 71, 72, 73, 74, 75, 76, 77, 78, 79, 80, 81, 82, 83, 84, 85, 86, 87, 88, 89, 90, 91, 92, 93, 94, 95, 96, 97, 98] (by decide +kernel) (by decide +kernel)) (goodIn_sub (fun _ h => List.mem_cons_of_mem _ (List.mem_append_left _ (List.mem_append_left _ (List.mem_append_right _ h)))) (by decide +kernel))) (goodIn_sub (fun _ h => List.mem_cons_of_mem _ (List.mem_append_left _ (List.mem_append_right _ h))) (by decide +kernel))) (goodIn_sub (fun _ h => List.mem_cons_of_mem _ (List.mem_append_right _ h)) (by decide +kernel))
set_option maxRecDepth 20000 in
theorem gL_clues_X4_clue : GoodIn wsL_clues (wsV RL 80 RX4 yX4_clue wsX4_clue) := goodIn_app (goodIn_of _ (by decide +kernel)) ggL_clues_X4_clue
theorem dL_clues_0 : decode cL_clues 0 = .ok (.aload_n 0, 1) := by decide +kernel
theorem dL_clues_1 : decode cL_clues 1 = .ok (.iload_n 1, 1) := by decide +kernel
theorem dL_clues_2 : decode cL_clues 2 = .ok (.iload_n 2, 1) := by decide +kernel
theorem dL_clues_3 : decode cL_clues 3 = .ok (.invokevirtual 80, 3) := by decide +kernel
theorem dL_clues_6 : decode cL_clues 6 = .ok (.ireturn, 1) := by decide +kernel
theorem dL_clues_7 : decode cL_clues 7 = .ok (.astore_n 3, 1) := by decide +kernel
theorem dL_clues_8 : decode cL_clues 8 = .ok (.bipush (-8), 2) := by decide +kernel
theorem dL_clues_10 : decode cL_clues 10 = .ok (.ireturn, 1) := by decide +kernel
theorem dL_noted_0 : decode cL_noted 0 = .ok (.aload_n 0, 1) := by decide +kernel
theorem dL_noted_1 : decode cL_noted 1 = .ok (.iload_n 3, 1) := by decide +kernel
theorem dL_noted_2 : decode cL_noted 2 = .ok (.iload 4, 2) := by decide +kernel
theorem dL_noted_4 : decode cL_noted 4 = .ok (.iastore, 1) := by decide +kernel
theorem dL_noted_5 : decode cL_noted 5 = .ok (.aload_n 2, 1) := by decide +kernel
theorem dL_noted_6 : decode cL_noted 6 = .ok (.aload_n 1, 1) := by decide +kernel
theorem dL_noted_7 : decode cL_noted 7 = .ok (.iconst 2, 1) := by decide +kernel
theorem dL_noted_8 : decode cL_noted 8 = .ok (.iaload, 1) := by decide +kernel
theorem dL_noted_9 : decode cL_noted 9 = .ok (.iload_n 3, 1) := by decide +kernel
theorem dL_noted_10 : decode cL_noted 10 = .ok (.iastore, 1) := by decide +kernel
theorem dL_noted_11 : decode cL_noted 11 = .ok (.aload_n 1, 1) := by decide +kernel
theorem dL_noted_12 : decode cL_noted 12 = .ok (.iconst 2, 1) := by decide +kernel
theorem dL_noted_13 : decode cL_noted 13 = .ok (.dup2, 1) := by decide +kernel
theorem dL_noted_14 : decode cL_noted 14 = .ok (.iaload, 1) := by decide +kernel
theorem dL_noted_15 : decode cL_noted 15 = .ok (.iconst 1, 1) := by decide +kernel
theorem dL_noted_16 : decode cL_noted 16 = .ok (.iadd, 1) := by decide +kernel
theorem dL_noted_17 : decode cL_noted 17 = .ok (.iastore, 1) := by decide +kernel
theorem dL_noted_18 : decode cL_noted 18 = .ok (.return_, 1) := by decide +kernel
set_option maxRecDepth 20000 in
theorem ggL_sets_L_isSound : GoodIn wsL_sets wsL_isSound := goodIn_r _ [5, 6, 7, 4, 8, 9, 10, 11, 12, 13, 14, 15, 16, 17] (by decide +kernel) (by decide +kernel)
set_option maxRecDepth 20000 in
theorem gL_sets_L_isSound : GoodIn wsL_sets (va_wsS RL 37 yL_isSound wsL_isSound) := goodIn_app (goodIn_of _ (by decide +kernel)) ggL_sets_L_isSound
set_option maxRecDepth 20000 in
theorem ggL_sets_L_clues : GoodIn wsL_sets wsL_clues := goodIn_ca (goodIn_ca (goodIn_ca (goodIn_r _ [20, 21, 22, 23, 24, 25, 26, 27, 28, 29, 30, 31, 32, 33, 34, 35, 36, 37, 38, 39, 40, 41, 42, 43, 44, 45, 46, 47, 48, 49, 50, 51, 52, 53, 54, 55, 56, 57, 58, 59, 60, 61, 62, 63, 64, 65, 66, 67, 68, 69, 70, 71, 72, 73, 74, 75, 76, 77, 78, 79, 80, 81, 82, 83, 84, 85, 86, 87, 88, 89, 90, 91, 92, 93, 94, 95, 96, 97, 98, 99, 100, 101, 102, 103, 104, 105, 106, 107, 108, 109, 110, 111, 112, 113, 114, 115, 116, 117, 118] (by decide +kernel) (by decide +kernel)) (goodIn_sub (fun _ h => List.mem_cons_of_mem _ (List.mem_append_left _ (List.mem_append_left _ (List.mem_append_right _ h)))) (by decide +kernel))) (goodIn_sub (fun _ h => List.mem_cons_of_mem _ (List.mem_append_left _ (List.mem_append_right _ h))) (by decide +kernel))) (goodIn_sub (fun _ h => List.mem_cons_of_mem _ (List.mem_append_right _ h)) (by decide +kernel))
set_option maxRecDepth 20000 in
theorem gL_sets_L_clues : GoodIn wsL_sets (va_wsS RL 83 yL_clues wsL_clues) := goodIn_app (goodIn_of _ (by decide +kernel)) ggL_sets_L_clues
theorem dL_sets_0 : decode cL_sets 0 = .ok (.bipush 12, 2) := by decide +kernel
theorem dL_sets_2 : decode cL_sets 2 = .ok (.newarray .int, 2) := by decide +kernel
theorem dL_sets_4 : decode cL_sets 4 = .ok (.astore 7, 2) := by decide +kernel
theorem dL_sets_6 : decode cL_sets 6 = .ok (.iconst 0, 1) := by decide +kernel
theorem dL_sets_7 : decode cL_sets 7 = .ok (.istore 8, 2) := by decide +kernel
theorem dL_sets_9 : decode cL_sets 9 = .ok (.iload 8, 2) := by decide +kernel
theorem dL_sets_11 : decode cL_sets 11 = .ok (.bipush 12, 2) := by decide +kernel
theorem dL_sets_13 : decode cL_sets 13 = .ok (.if_icmp .ge 41, 3) := by decide +kernel
theorem dL_sets_16 : decode cL_sets 16 = .ok (.aload 7, 2) := by decide +kernel
theorem dL_sets_18 : decode cL_sets 18 = .ok (.iload 8, 2) := by decide +kernel
theorem dL_sets_20 : decode cL_sets 20 = .ok (.iload 8, 2) := by decide +kernel
theorem dL_sets_22 : decode cL_sets 22 = .ok (.iload_n 1, 1) := by decide +kernel
theorem dL_sets_23 : decode cL_sets 23 = .ok (.if_icmp .ne 7, 3) := by decide +kernel
theorem dL_sets_26 : decode cL_sets 26 = .ok (.iload_n 2, 1) := by decide +kernel
theorem dL_sets_27 : decode cL_sets 27 = .ok (.goto 20, 3) := by decide +kernel
theorem dL_sets_30 : decode cL_sets 30 = .ok (.aload 4, 2) := by decide +kernel
theorem dL_sets_32 : decode cL_sets 32 = .ok (.iload 8, 2) := by decide +kernel
theorem dL_sets_34 : decode cL_sets 34 = .ok (.iaload, 1) := by decide +kernel
theorem dL_sets_35 : decode cL_sets 35 = .ok (.iconst 1, 1) := by decide +kernel
theorem dL_sets_36 : decode cL_sets 36 = .ok (.if_icmp .ne 10, 3) := by decide +kernel
theorem dL_sets_39 : decode cL_sets 39 = .ok (.aload_n 3, 1) := by decide +kernel
theorem dL_sets_40 : decode cL_sets 40 = .ok (.iload 8, 2) := by decide +kernel
theorem dL_sets_42 : decode cL_sets 42 = .ok (.iaload, 1) := by decide +kernel
theorem dL_sets_43 : decode cL_sets 43 = .ok (.goto 4, 3) := by decide +kernel
theorem dL_sets_46 : decode cL_sets 46 = .ok (.iconst 0, 1) := by decide +kernel
theorem dL_sets_47 : decode cL_sets 47 = .ok (.iastore, 1) := by decide +kernel
theorem dL_sets_48 : decode cL_sets 48 = .ok (.iinc 8 1, 3) := by decide +kernel
theorem dL_sets_51 : decode cL_sets 51 = .ok (.goto (-42), 3) := by decide +kernel
theorem dL_sets_54 : decode cL_sets 54 = .ok (.aload 7, 2) := by decide +kernel
theorem dL_sets_56 : decode cL_sets 56 = .ok (.aload 5, 2) := by decide +kernel
theorem dL_sets_58 : decode cL_sets 58 = .ok (.invokestatic 37, 3) := by decide +kernel
theorem dL_sets_61 : decode cL_sets 61 = .ok (.istore 8, 2) := by decide +kernel
theorem dL_sets_63 : decode cL_sets 63 = .ok (.aload 4, 2) := by decide +kernel
theorem dL_sets_65 : decode cL_sets 65 = .ok (.iload_n 1, 1) := by decide +kernel
theorem dL_sets_66 : decode cL_sets 66 = .ok (.iaload, 1) := by decide +kernel
theorem dL_sets_67 : decode cL_sets 67 = .ok (.iconst 1, 1) := by decide +kernel
theorem dL_sets_68 : decode cL_sets 68 = .ok (.if_icmp .ne 9, 3) := by decide +kernel
theorem dL_sets_71 : decode cL_sets 71 = .ok (.aload_n 3, 1) := by decide +kernel
theorem dL_sets_72 : decode cL_sets 72 = .ok (.iload_n 1, 1) := by decide +kernel
theorem dL_sets_73 : decode cL_sets 73 = .ok (.iaload, 1) := by decide +kernel
theorem dL_sets_74 : decode cL_sets 74 = .ok (.goto 4, 3) := by decide +kernel
theorem dL_sets_77 : decode cL_sets 77 = .ok (.iconst 0, 1) := by decide +kernel
theorem dL_sets_78 : decode cL_sets 78 = .ok (.istore 9, 2) := by decide +kernel
theorem dL_sets_80 : decode cL_sets 80 = .ok (.aload_n 0, 1) := by decide +kernel
theorem dL_sets_81 : decode cL_sets 81 = .ok (.iload_n 1, 1) := by decide +kernel
theorem dL_sets_82 : decode cL_sets 82 = .ok (.iload_n 2, 1) := by decide +kernel
theorem dL_sets_83 : decode cL_sets 83 = .ok (.invokestatic 83, 3) := by decide +kernel
theorem dL_sets_86 : decode cL_sets 86 = .ok (.istore 10, 2) := by decide +kernel
theorem dL_sets_88 : decode cL_sets 88 = .ok (.iload 8, 2) := by decide +kernel
theorem dL_sets_90 : decode cL_sets 90 = .ok (.ifCond .ne 16, 3) := by decide +kernel
theorem dL_sets_93 : decode cL_sets 93 = .ok (.iload 10, 2) := by decide +kernel
theorem dL_sets_95 : decode cL_sets 95 = .ok (.bipush (-8), 2) := by decide +kernel
theorem dL_sets_97 : decode cL_sets 97 = .ok (.if_icmp .ne 7, 3) := by decide +kernel
theorem dL_sets_100 : decode cL_sets 100 = .ok (.iconst 1, 1) := by decide +kernel
theorem dL_sets_101 : decode cL_sets 101 = .ok (.goto 4, 3) := by decide +kernel
theorem dL_sets_104 : decode cL_sets 104 = .ok (.iconst 0, 1) := by decide +kernel
theorem dL_sets_105 : decode cL_sets 105 = .ok (.ireturn, 1) := by decide +kernel
theorem dL_sets_106 : decode cL_sets 106 = .ok (.iconst 0, 1) := by decide +kernel
theorem dL_sets_107 : decode cL_sets 107 = .ok (.istore 11, 2) := by decide +kernel
theorem dL_sets_109 : decode cL_sets 109 = .ok (.iload 11, 2) := by decide +kernel
theorem dL_sets_111 : decode cL_sets 111 = .ok (.bipush 12, 2) := by decide +kernel
theorem dL_sets_113 : decode cL_sets 113 = .ok (.if_icmp .ge 18, 3) := by decide +kernel
theorem dL_sets_116 : decode cL_sets 116 = .ok (.aload_n 3, 1) := by decide +kernel
theorem dL_sets_117 : decode cL_sets 117 = .ok (.iload 11, 2) := by decide +kernel
theorem dL_sets_119 : decode cL_sets 119 = .ok (.aload 7, 2) := by decide +kernel
theorem dL_sets_121 : decode cL_sets 121 = .ok (.iload 11, 2) := by decide +kernel
theorem dL_sets_123 : decode cL_sets 123 = .ok (.iaload, 1) := by decide +kernel
theorem dL_sets_124 : decode cL_sets 124 = .ok (.iastore, 1) := by decide +kernel
theorem dL_sets_125 : decode cL_sets 125 = .ok (.iinc 11 1, 3) := by decide +kernel
theorem dL_sets_128 : decode cL_sets 128 = .ok (.goto (-19), 3) := by decide +kernel
theorem dL_sets_131 : decode cL_sets 131 = .ok (.aload 4, 2) := by decide +kernel
theorem dL_sets_133 : decode cL_sets 133 = .ok (.iload_n 1, 1) := by decide +kernel
theorem dL_sets_134 : decode cL_sets 134 = .ok (.iload_n 2, 1) := by decide +kernel
theorem dL_sets_135 : decode cL_sets 135 = .ok (.ifCond .le 7, 3) := by decide +kernel
theorem dL_sets_138 : decode cL_sets 138 = .ok (.iconst 1, 1) := by decide +kernel
theorem dL_sets_139 : decode cL_sets 139 = .ok (.goto 4, 3) := by decide +kernel
theorem dL_sets_142 : decode cL_sets 142 = .ok (.iconst 0, 1) := by decide +kernel
theorem dL_sets_143 : decode cL_sets 143 = .ok (.iastore, 1) := by decide +kernel
theorem dL_sets_144 : decode cL_sets 144 = .ok (.aload 5, 2) := by decide +kernel
theorem dL_sets_146 : decode cL_sets 146 = .ok (.iconst 2, 1) := by decide +kernel
theorem dL_sets_147 : decode cL_sets 147 = .ok (.iconst 0, 1) := by decide +kernel
theorem dL_sets_148 : decode cL_sets 148 = .ok (.iastore, 1) := by decide +kernel
theorem dL_sets_149 : decode cL_sets 149 = .ok (.iload 10, 2) := by decide +kernel
theorem dL_sets_151 : decode cL_sets 151 = .ok (.iload 9, 2) := by decide +kernel
theorem dL_sets_153 : decode cL_sets 153 = .ok (.if_icmp .ne 7, 3) := by decide +kernel
theorem dL_sets_156 : decode cL_sets 156 = .ok (.iconst 1, 1) := by decide +kernel
theorem dL_sets_157 : decode cL_sets 157 = .ok (.goto 4, 3) := by decide +kernel
theorem dL_sets_160 : decode cL_sets 160 = .ok (.iconst 0, 1) := by decide +kernel
theorem dL_sets_161 : decode cL_sets 161 = .ok (.ireturn, 1) := by decide +kernel
set_option maxRecDepth 20000 in
theorem ggL_runs_X4_canBe : GoodIn wsL_runs wsX4_canBe := goodIn_ca (goodIn_ca (goodIn_r _ [5, 6, 7, 8, 9, 4, 10, 11, 12, 13, 14, 15, 16, 17, 18, 19, 20, 21, 22, 23, 24, 25, 26, 27, 28, 29, 30, 31, 32, 33, 34, 35, 36, 37, 38, 39, 40, 41, 42, 43, 44, 45, 46, 47, 48, 49, 50, 51, 52, 53, 54, 55, 56, 57, 58, 59, 60, 61, 62, 63, 64, 65, 66, 67, 68, 69, 70, 71, 72, 73, 74, 75, 76, 77, 184, 185, 186, 187, 188, 189, 190, 191, 192, 193, 194] (by decide +kernel) (by decide +kernel)) (goodIn_sub (fun _ h => List.mem_cons_of_mem _ (List.mem_append_left _ (List.mem_append_right _ h))) (by decide +kernel))) (goodIn_sub (fun _ h => List.mem_cons_of_mem _ (List.mem_append_right _ h)) (by decide +kernel))
set_option maxRecDepth 20000 in
theorem gL_runs_X4_canBe : GoodIn wsL_runs (wsV RL 61 RX4 yX4_canBe wsX4_canBe) := goodIn_app (goodIn_of _ (by decide +kernel)) ggL_runs_X4_canBe
set_option maxRecDepth 20000 in
theorem ggL_runs_L_areNext : GoodIn wsL_runs wsL_areNext := goodIn_r _ [81] (by decide +kernel) (by decide +kernel)
set_option maxRecDepth 20000 in
theorem gL_runs_L_areNext : GoodIn wsL_runs (va_wsS RL 10 yL_areNext wsL_areNext) := goodIn_app (goodIn_of _ (by decide +kernel)) ggL_runs_L_areNext
set_option maxRecDepth 20000 in
theorem ggL_runs_X4_isHidden : GoodIn wsL_runs wsX4_isHidden := goodIn_ca (goodIn_r _ [85, 6, 7, 8, 9, 4, 10, 11, 12, 13, 14, 15, 16, 17, 18, 19, 20, 21, 22, 23, 24, 86, 87, 88, 37, 38, 39, 40, 41, 75, 76, 77, 60, 61, 62, 63, 64, 65, 66, 67, 68, 69, 70, 33, 34, 35, 36, 43, 44, 45, 46, 47, 184, 185, 186, 187, 188, 189, 190, 191, 192, 193, 194] (by decide +kernel) (by decide +kernel)) (goodIn_sub (fun _ h => List.mem_cons_of_mem _ (List.mem_append_left _ (List.mem_append_right _ h))) (by decide +kernel))
set_option maxRecDepth 20000 in
theorem gL_runs_X4_isHidden : GoodIn wsL_runs (wsV RL 72 RX4 yX4_isHidden wsX4_isHidden) := goodIn_app (goodIn_of _ (by decide +kernel)) ggL_runs_X4_isHidden
set_option maxRecDepth 20000 in
theorem ggL_runs_X4_size : GoodIn wsL_runs wsX4_size := goodIn_ca (goodIn_r _ [92, 6, 7, 8, 9, 4, 10, 11, 12, 13, 14, 15, 16, 17, 18, 19, 20, 21, 22, 23, 24, 53, 54, 55, 56, 57, 58, 59, 41, 42, 43, 44, 45, 46, 47, 37, 38, 39, 40, 60, 61, 62, 63, 64, 65, 66, 67, 68, 69, 70, 93, 184, 185, 186, 187, 188, 189, 190, 191, 192, 193, 194] (by decide +kernel) (by decide +kernel)) (goodIn_sub (fun _ h => List.mem_cons_of_mem _ (List.mem_append_left _ (List.mem_append_right _ h))) (by decide +kernel))
set_option maxRecDepth 20000 in
theorem gL_runs_X4_size : GoodIn wsL_runs (wsV RL 48 RX4 yX4_size wsX4_size) := goodIn_app (goodIn_of _ (by decide +kernel)) ggL_runs_X4_size
set_option maxRecDepth 20000 in
theorem ggL_runs_X4_shapes : GoodIn wsL_runs wsX4_shapes := goodIn_ca (goodIn_r _ [97, 98, 6, 7, 8, 9, 4, 10, 11, 12, 13, 14, 15, 16, 17, 18, 19, 20, 21, 22, 23, 24, 99, 100, 101, 102, 103, 104, 105, 106, 107, 108, 109, 57, 58, 59, 41, 42, 43, 44, 45, 46, 47, 53, 54, 55, 56, 37, 38, 39, 40, 60, 61, 62, 63, 64, 65, 66, 67, 68, 69, 70, 110, 111, 112, 33, 34, 35, 36, 113, 114, 115, 75, 76, 77, 116, 117, 118, 119, 184, 185, 186, 187, 188, 189, 195, 196, 197, 190, 191, 192, 193, 194] (by decide +kernel) (by decide +kernel)) (goodIn_sub (fun _ h => List.mem_cons_of_mem _ (List.mem_append_left _ (List.mem_append_right _ h))) (by decide +kernel))
set_option maxRecDepth 20000 in
theorem gL_runs_X4_shapes : GoodIn wsL_runs (wsV RL 65 RX4 yX4_shapes wsX4_shapes) := goodIn_app (goodIn_of _ (by decide +kernel)) ggL_runs_X4_shapes
set_option maxRecDepth 20000 in
theorem ggL_runs_X4_shapesWith : GoodIn wsL_runs wsX4_shapesWith := goodIn_ca (goodIn_r _ [123, 98, 6, 7, 8, 9, 4, 10, 11, 12, 13, 14, 15, 16, 17, 18, 19, 20, 21, 22, 23, 24, 99, 100, 101, 102, 103, 104, 105, 106, 107, 108, 109, 57, 58, 59, 41, 42, 43, 44, 45, 46, 47, 53, 54, 55, 56, 37, 38, 39, 40, 60, 61, 62, 63, 64, 65, 66, 67, 68, 69, 70, 110, 111, 112, 33, 34, 35, 36, 113, 114, 115, 75, 76, 77, 116, 117, 118, 119, 124, 125, 126, 184, 185, 186, 187, 188, 189, 190, 191, 192, 193, 194, 195, 196, 197] (by decide +kernel) (by decide +kernel)) (goodIn_sub (fun _ h => List.mem_cons_of_mem _ (List.mem_append_left _ (List.mem_append_right _ h))) (by decide +kernel))
set_option maxRecDepth 20000 in
theorem gL_runs_X4_shapesWith : GoodIn wsL_runs (wsV RL 68 RX4 yX4_shapesWith wsX4_shapesWith) := goodIn_app (goodIn_of _ (by decide +kernel)) ggL_runs_X4_shapesWith
set_option maxRecDepth 20000 in
theorem ggL_runs_L_cellsOf : GoodIn wsL_runs wsL_cellsOf := goodIn_r _ [129] (by decide +kernel) (by decide +kernel)
set_option maxRecDepth 20000 in
theorem gL_runs_L_cellsOf : GoodIn wsL_runs (va_wsS RL 16 yL_cellsOf wsL_cellsOf) := goodIn_app (goodIn_of _ (by decide +kernel)) ggL_runs_L_cellsOf
set_option maxRecDepth 20000 in
theorem ggL_runs_L_many : GoodIn wsL_runs wsL_many := goodIn_r _ [132] (by decide +kernel) (by decide +kernel)
set_option maxRecDepth 20000 in
theorem gL_runs_L_many : GoodIn wsL_runs (va_wsS RL 24 yL_many wsL_many) := goodIn_app (goodIn_of _ (by decide +kernel)) ggL_runs_L_many
set_option maxRecDepth 20000 in
theorem ggL_runs_X4_solutions : GoodIn wsL_runs wsX4_solutions := goodIn_ca (goodIn_r _ [136, 28, 29, 6, 137, 138, 139, 13, 14, 15, 16, 17, 18, 19, 20, 21, 22, 23, 24, 57, 58, 59, 41, 42, 43, 44, 45, 46, 47, 140, 141, 142, 37, 38, 39, 40, 143, 144, 145, 146, 33, 34, 35, 36, 30, 31, 32, 48, 49, 50, 51, 52, 53, 54, 55, 56, 60, 61, 62, 63, 64, 65, 66, 67, 68, 69, 70, 71, 72, 73, 74, 75, 76, 77, 147, 184, 185, 186, 187, 188, 189, 190, 191, 192, 193, 194] (by decide +kernel) (by decide +kernel)) (goodIn_sub (fun _ h => List.mem_cons_of_mem _ (List.mem_append_right _ h)) (by decide +kernel))
set_option maxRecDepth 20000 in
theorem gL_runs_X4_solutions : GoodIn wsL_runs (wsV RL 58 RX4 yX4_solutions wsX4_solutions) := goodIn_app (goodIn_of _ (by decide +kernel)) ggL_runs_X4_solutions
set_option maxRecDepth 20000 in
theorem ggL_runs_X4_run : GoodIn wsL_runs wsX4_run := goodIn_ca (goodIn_r _ [151, 28, 29, 152, 153, 154, 4, 155, 6, 13, 14, 15, 16, 17, 18, 19, 20, 21, 22, 23, 24, 156, 157, 158, 159, 30, 31, 32, 33, 34, 35, 36, 37, 38, 39, 40, 41, 42, 43, 44, 45, 46, 47, 48, 49, 50, 51, 52, 53, 54, 55, 56, 57, 58, 59, 60, 61, 62, 63, 64, 65, 66, 67, 68, 69, 70, 71, 72, 73, 74, 75, 76, 77, 160, 161, 162, 163, 164, 165, 166, 167, 98, 99, 100, 101, 102, 103, 104, 105, 106, 107, 108, 109, 110, 111, 112, 113, 114, 115, 116, 117, 118, 119, 168, 169, 170, 171, 86, 87, 88, 172, 173, 174, 175, 176, 177, 178, 179, 180, 184, 185, 186, 187, 188, 189, 190, 191, 192, 193, 194, 195, 196, 197] (by decide +kernel) (by decide +kernel)) (goodIn_sub (fun _ h => List.mem_cons_of_mem _ (List.mem_append_right _ h)) (by decide +kernel))
set_option maxRecDepth 20000 in
theorem gL_runs_X4_run : GoodIn wsL_runs (wsV RL 87 RX4 yX4_run wsX4_run) := goodIn_app (goodIn_of _ (by decide +kernel)) ggL_runs_X4_run
set_option maxRecDepth 20000 in
theorem ggL_runs_L_noted : GoodIn wsL_runs wsL_noted := goodIn_r _ [183] (by decide +kernel) (by decide +kernel)
set_option maxRecDepth 20000 in
theorem gL_runs_L_noted : GoodIn wsL_runs (va_wsS RL 90 yL_noted wsL_noted) := goodIn_app (goodIn_of _ (by decide +kernel)) ggL_runs_L_noted
theorem dL_runs_0 : decode cL_runs 0 = .ok (.iconst (-1), 1) := by decide +kernel
theorem dL_runs_1 : decode cL_runs 1 = .ok (.istore 5, 2) := by decide +kernel
theorem dL_runs_3 : decode cL_runs 3 = .ok (.aload_n 3, 1) := by decide +kernel
theorem dL_runs_4 : decode cL_runs 4 = .ok (.iconst 0, 1) := by decide +kernel
theorem dL_runs_5 : decode cL_runs 5 = .ok (.iaload, 1) := by decide +kernel
theorem dL_runs_6 : decode cL_runs 6 = .ok (.aload_n 3, 1) := by decide +kernel
theorem dL_runs_7 : decode cL_runs 7 = .ok (.iconst 1, 1) := by decide +kernel
theorem dL_runs_8 : decode cL_runs 8 = .ok (.iaload, 1) := by decide +kernel
theorem dL_runs_9 : decode cL_runs 9 = .ok (.imul, 1) := by decide +kernel
theorem dL_runs_10 : decode cL_runs 10 = .ok (.bipush 9, 2) := by decide +kernel
theorem dL_runs_12 : decode cL_runs 12 = .ok (.if_icmp .gt 7, 3) := by decide +kernel
theorem dL_runs_15 : decode cL_runs 15 = .ok (.iconst 1, 1) := by decide +kernel
theorem dL_runs_16 : decode cL_runs 16 = .ok (.goto 4, 3) := by decide +kernel
theorem dL_runs_19 : decode cL_runs 19 = .ok (.iconst 0, 1) := by decide +kernel
theorem dL_runs_20 : decode cL_runs 20 = .ok (.istore 6, 2) := by decide +kernel
theorem dL_runs_22 : decode cL_runs 22 = .ok (.aload_n 3, 1) := by decide +kernel
theorem dL_runs_23 : decode cL_runs 23 = .ok (.iconst 0, 1) := by decide +kernel
theorem dL_runs_24 : decode cL_runs 24 = .ok (.iaload, 1) := by decide +kernel
theorem dL_runs_25 : decode cL_runs 25 = .ok (.aload_n 3, 1) := by decide +kernel
theorem dL_runs_26 : decode cL_runs 26 = .ok (.iconst 1, 1) := by decide +kernel
theorem dL_runs_27 : decode cL_runs 27 = .ok (.iaload, 1) := by decide +kernel
theorem dL_runs_28 : decode cL_runs 28 = .ok (.imul, 1) := by decide +kernel
theorem dL_runs_29 : decode cL_runs 29 = .ok (.iconst 1, 1) := by decide +kernel
theorem dL_runs_30 : decode cL_runs 30 = .ok (.isub, 1) := by decide +kernel
theorem dL_runs_31 : decode cL_runs 31 = .ok (.istore 7, 2) := by decide +kernel
theorem dL_runs_33 : decode cL_runs 33 = .ok (.iload 7, 2) := by decide +kernel
theorem dL_runs_35 : decode cL_runs 35 = .ok (.ifCond .lt 317, 3) := by decide +kernel
theorem dL_runs_38 : decode cL_runs 38 = .ok (.iconst 0, 1) := by decide +kernel
theorem dL_runs_39 : decode cL_runs 39 = .ok (.istore 8, 2) := by decide +kernel
theorem dL_runs_41 : decode cL_runs 41 = .ok (.iconst 0, 1) := by decide +kernel
theorem dL_runs_42 : decode cL_runs 42 = .ok (.istore 9, 2) := by decide +kernel
theorem dL_runs_44 : decode cL_runs 44 = .ok (.iconst 0, 1) := by decide +kernel
theorem dL_runs_45 : decode cL_runs 45 = .ok (.istore 10, 2) := by decide +kernel
theorem dL_runs_47 : decode cL_runs 47 = .ok (.iconst 1, 1) := by decide +kernel
theorem dL_runs_48 : decode cL_runs 48 = .ok (.istore 11, 2) := by decide +kernel
theorem dL_runs_50 : decode cL_runs 50 = .ok (.iload 11, 2) := by decide +kernel
theorem dL_runs_52 : decode cL_runs 52 = .ok (.bipush 10, 2) := by decide +kernel
theorem dL_runs_54 : decode cL_runs 54 = .ok (.if_icmp .ge 50, 3) := by decide +kernel
theorem dL_runs_57 : decode cL_runs 57 = .ok (.iload 8, 2) := by decide +kernel
theorem dL_runs_59 : decode cL_runs 59 = .ok (.aload_n 0, 1) := by decide +kernel
theorem dL_runs_60 : decode cL_runs 60 = .ok (.iload 7, 2) := by decide +kernel
theorem dL_runs_62 : decode cL_runs 62 = .ok (.iload 11, 2) := by decide +kernel
theorem dL_runs_64 : decode cL_runs 64 = .ok (.invokevirtual 61, 3) := by decide +kernel
theorem dL_runs_67 : decode cL_runs 67 = .ok (.ifCond .eq 7, 3) := by decide +kernel
theorem dL_runs_70 : decode cL_runs 70 = .ok (.iconst 1, 1) := by decide +kernel
theorem dL_runs_71 : decode cL_runs 71 = .ok (.goto 4, 3) := by decide +kernel
theorem dL_runs_74 : decode cL_runs 74 = .ok (.iconst 0, 1) := by decide +kernel
theorem dL_runs_75 : decode cL_runs 75 = .ok (.iadd, 1) := by decide +kernel
theorem dL_runs_76 : decode cL_runs 76 = .ok (.istore 8, 2) := by decide +kernel
theorem dL_runs_78 : decode cL_runs 78 = .ok (.aload_n 0, 1) := by decide +kernel
theorem dL_runs_79 : decode cL_runs 79 = .ok (.iload 7, 2) := by decide +kernel
theorem dL_runs_81 : decode cL_runs 81 = .ok (.iload 11, 2) := by decide +kernel
theorem dL_runs_83 : decode cL_runs 83 = .ok (.invokevirtual 61, 3) := by decide +kernel
theorem dL_runs_86 : decode cL_runs 86 = .ok (.ifCond .eq 8, 3) := by decide +kernel
theorem dL_runs_89 : decode cL_runs 89 = .ok (.iload 11, 2) := by decide +kernel
theorem dL_runs_91 : decode cL_runs 91 = .ok (.goto 5, 3) := by decide +kernel
theorem dL_runs_94 : decode cL_runs 94 = .ok (.iload 9, 2) := by decide +kernel
theorem dL_runs_96 : decode cL_runs 96 = .ok (.istore 9, 2) := by decide +kernel
theorem dL_runs_98 : decode cL_runs 98 = .ok (.iinc 11 1, 3) := by decide +kernel
theorem dL_runs_101 : decode cL_runs 101 = .ok (.goto (-51), 3) := by decide +kernel
theorem dL_runs_104 : decode cL_runs 104 = .ok (.iconst 0, 1) := by decide +kernel
theorem dL_runs_105 : decode cL_runs 105 = .ok (.istore 11, 2) := by decide +kernel
theorem dL_runs_107 : decode cL_runs 107 = .ok (.iload 11, 2) := by decide +kernel
theorem dL_runs_109 : decode cL_runs 109 = .ok (.aload_n 3, 1) := by decide +kernel
theorem dL_runs_110 : decode cL_runs 110 = .ok (.iconst 0, 1) := by decide +kernel
theorem dL_runs_111 : decode cL_runs 111 = .ok (.iaload, 1) := by decide +kernel
theorem dL_runs_112 : decode cL_runs 112 = .ok (.aload_n 3, 1) := by decide +kernel
theorem dL_runs_113 : decode cL_runs 113 = .ok (.iconst 1, 1) := by decide +kernel
theorem dL_runs_114 : decode cL_runs 114 = .ok (.iaload, 1) := by decide +kernel
theorem dL_runs_115 : decode cL_runs 115 = .ok (.imul, 1) := by decide +kernel
theorem dL_runs_116 : decode cL_runs 116 = .ok (.if_icmp .ge 39, 3) := by decide +kernel
theorem dL_runs_119 : decode cL_runs 119 = .ok (.iload 10, 2) := by decide +kernel
theorem dL_runs_121 : decode cL_runs 121 = .ok (.ifCond .ne 21, 3) := by decide +kernel
theorem dL_runs_124 : decode cL_runs 124 = .ok (.aload_n 3, 1) := by decide +kernel
theorem dL_runs_125 : decode cL_runs 125 = .ok (.iload 11, 2) := by decide +kernel
theorem dL_runs_127 : decode cL_runs 127 = .ok (.iload 7, 2) := by decide +kernel
theorem dL_runs_129 : decode cL_runs 129 = .ok (.invokestatic 10, 3) := by decide +kernel
theorem dL_runs_132 : decode cL_runs 132 = .ok (.ifCond .eq 14, 3) := by decide +kernel
theorem dL_runs_135 : decode cL_runs 135 = .ok (.aload_n 2, 1) := by decide +kernel
theorem dL_runs_136 : decode cL_runs 136 = .ok (.iload 11, 2) := by decide +kernel
theorem dL_runs_138 : decode cL_runs 138 = .ok (.iaload, 1) := by decide +kernel
theorem dL_runs_139 : decode cL_runs 139 = .ok (.ifCond .ne 7, 3) := by decide +kernel
theorem dL_runs_142 : decode cL_runs 142 = .ok (.iconst 1, 1) := by decide +kernel
theorem dL_runs_143 : decode cL_runs 143 = .ok (.goto 4, 3) := by decide +kernel
theorem dL_runs_146 : decode cL_runs 146 = .ok (.iconst 0, 1) := by decide +kernel
theorem dL_runs_147 : decode cL_runs 147 = .ok (.istore 10, 2) := by decide +kernel
theorem dL_runs_149 : decode cL_runs 149 = .ok (.iinc 11 1, 3) := by decide +kernel
theorem dL_runs_152 : decode cL_runs 152 = .ok (.goto (-45), 3) := by decide +kernel
theorem dL_runs_155 : decode cL_runs 155 = .ok (.iload_n 1, 1) := by decide +kernel
theorem dL_runs_156 : decode cL_runs 156 = .ok (.ifCond .ne 20, 3) := by decide +kernel
theorem dL_runs_159 : decode cL_runs 159 = .ok (.iload 8, 2) := by decide +kernel
theorem dL_runs_161 : decode cL_runs 161 = .ok (.iconst 1, 1) := by decide +kernel
theorem dL_runs_162 : decode cL_runs 162 = .ok (.if_icmp .ne 14, 3) := by decide +kernel
theorem dL_runs_165 : decode cL_runs 165 = .ok (.bipush 10, 2) := by decide +kernel
theorem dL_runs_167 : decode cL_runs 167 = .ok (.iload 7, 2) := by decide +kernel
theorem dL_runs_169 : decode cL_runs 169 = .ok (.imul, 1) := by decide +kernel
theorem dL_runs_170 : decode cL_runs 170 = .ok (.iload 9, 2) := by decide +kernel
theorem dL_runs_172 : decode cL_runs 172 = .ok (.iadd, 1) := by decide +kernel
theorem dL_runs_173 : decode cL_runs 173 = .ok (.goto 44, 3) := by decide +kernel
theorem dL_runs_176 : decode cL_runs 176 = .ok (.iload_n 1, 1) := by decide +kernel
theorem dL_runs_177 : decode cL_runs 177 = .ok (.iconst 2, 1) := by decide +kernel
theorem dL_runs_178 : decode cL_runs 178 = .ok (.if_icmp .ne 37, 3) := by decide +kernel
theorem dL_runs_181 : decode cL_runs 181 = .ok (.aload_n 0, 1) := by decide +kernel
theorem dL_runs_182 : decode cL_runs 182 = .ok (.iload 7, 2) := by decide +kernel
theorem dL_runs_184 : decode cL_runs 184 = .ok (.invokevirtual 72, 3) := by decide +kernel
theorem dL_runs_187 : decode cL_runs 187 = .ok (.ifCond .eq 28, 3) := by decide +kernel
theorem dL_runs_190 : decode cL_runs 190 = .ok (.iload 10, 2) := by decide +kernel
theorem dL_runs_192 : decode cL_runs 192 = .ok (.ifCond .ne 23, 3) := by decide +kernel
theorem dL_runs_195 : decode cL_runs 195 = .ok (.aload_n 0, 1) := by decide +kernel
theorem dL_runs_196 : decode cL_runs 196 = .ok (.iload 7, 2) := by decide +kernel
theorem dL_runs_198 : decode cL_runs 198 = .ok (.iconst 1, 1) := by decide +kernel
theorem dL_runs_199 : decode cL_runs 199 = .ok (.invokevirtual 61, 3) := by decide +kernel
theorem dL_runs_202 : decode cL_runs 202 = .ok (.ifCond .eq 13, 3) := by decide +kernel
theorem dL_runs_205 : decode cL_runs 205 = .ok (.bipush 10, 2) := by decide +kernel
theorem dL_runs_207 : decode cL_runs 207 = .ok (.iload 7, 2) := by decide +kernel
theorem dL_runs_209 : decode cL_runs 209 = .ok (.imul, 1) := by decide +kernel
theorem dL_runs_210 : decode cL_runs 210 = .ok (.iconst 1, 1) := by decide +kernel
theorem dL_runs_211 : decode cL_runs 211 = .ok (.iadd, 1) := by decide +kernel
theorem dL_runs_212 : decode cL_runs 212 = .ok (.goto 5, 3) := by decide +kernel
theorem dL_runs_215 : decode cL_runs 215 = .ok (.iload 5, 2) := by decide +kernel
theorem dL_runs_217 : decode cL_runs 217 = .ok (.istore 5, 2) := by decide +kernel
theorem dL_runs_219 : decode cL_runs 219 = .ok (.aload_n 3, 1) := by decide +kernel
theorem dL_runs_220 : decode cL_runs 220 = .ok (.iconst 0, 1) := by decide +kernel
theorem dL_runs_221 : decode cL_runs 221 = .ok (.iaload, 1) := by decide +kernel
theorem dL_runs_222 : decode cL_runs 222 = .ok (.aload_n 3, 1) := by decide +kernel
theorem dL_runs_223 : decode cL_runs 223 = .ok (.iconst 1, 1) := by decide +kernel
theorem dL_runs_224 : decode cL_runs 224 = .ok (.iaload, 1) := by decide +kernel
theorem dL_runs_225 : decode cL_runs 225 = .ok (.imul, 1) := by decide +kernel
theorem dL_runs_226 : decode cL_runs 226 = .ok (.iconst 1, 1) := by decide +kernel
theorem dL_runs_227 : decode cL_runs 227 = .ok (.isub, 1) := by decide +kernel
theorem dL_runs_228 : decode cL_runs 228 = .ok (.istore 11, 2) := by decide +kernel
theorem dL_runs_230 : decode cL_runs 230 = .ok (.iload 11, 2) := by decide +kernel
theorem dL_runs_232 : decode cL_runs 232 = .ok (.ifCond .lt 114, 3) := by decide +kernel
theorem dL_runs_235 : decode cL_runs 235 = .ok (.iload_n 1, 1) := by decide +kernel
theorem dL_runs_236 : decode cL_runs 236 = .ok (.iconst 1, 1) := by decide +kernel
theorem dL_runs_237 : decode cL_runs 237 = .ok (.if_icmp .ne 109, 3) := by decide +kernel
theorem dL_runs_240 : decode cL_runs 240 = .ok (.iload 6, 2) := by decide +kernel
theorem dL_runs_242 : decode cL_runs 242 = .ok (.ifCond .eq 104, 3) := by decide +kernel
theorem dL_runs_245 : decode cL_runs 245 = .ok (.aload_n 2, 1) := by decide +kernel
theorem dL_runs_246 : decode cL_runs 246 = .ok (.iload 7, 2) := by decide +kernel
theorem dL_runs_248 : decode cL_runs 248 = .ok (.iaload, 1) := by decide +kernel
theorem dL_runs_249 : decode cL_runs 249 = .ok (.ifCond .ne 97, 3) := by decide +kernel
theorem dL_runs_252 : decode cL_runs 252 = .ok (.aload_n 2, 1) := by decide +kernel
theorem dL_runs_253 : decode cL_runs 253 = .ok (.iload 11, 2) := by decide +kernel
theorem dL_runs_255 : decode cL_runs 255 = .ok (.iaload, 1) := by decide +kernel
theorem dL_runs_256 : decode cL_runs 256 = .ok (.ifCond .le 59, 3) := by decide +kernel
theorem dL_runs_259 : decode cL_runs 259 = .ok (.aload_n 0, 1) := by decide +kernel
theorem dL_runs_260 : decode cL_runs 260 = .ok (.iload 11, 2) := by decide +kernel
theorem dL_runs_262 : decode cL_runs 262 = .ok (.invokevirtual 48, 3) := by decide +kernel
theorem dL_runs_265 : decode cL_runs 265 = .ok (.aload_n 2, 1) := by decide +kernel
theorem dL_runs_266 : decode cL_runs 266 = .ok (.iload 11, 2) := by decide +kernel
theorem dL_runs_268 : decode cL_runs 268 = .ok (.iaload, 1) := by decide +kernel
theorem dL_runs_269 : decode cL_runs 269 = .ok (.if_icmp .ge 46, 3) := by decide +kernel
theorem dL_runs_272 : decode cL_runs 272 = .ok (.aload_n 0, 1) := by decide +kernel
theorem dL_runs_273 : decode cL_runs 273 = .ok (.iload 7, 2) := by decide +kernel
theorem dL_runs_275 : decode cL_runs 275 = .ok (.aload_n 2, 1) := by decide +kernel
theorem dL_runs_276 : decode cL_runs 276 = .ok (.iload 11, 2) := by decide +kernel
theorem dL_runs_278 : decode cL_runs 278 = .ok (.iaload, 1) := by decide +kernel
theorem dL_runs_279 : decode cL_runs 279 = .ok (.invokevirtual 61, 3) := by decide +kernel
theorem dL_runs_282 : decode cL_runs 282 = .ok (.ifCond .eq 33, 3) := by decide +kernel
theorem dL_runs_285 : decode cL_runs 285 = .ok (.aload_n 0, 1) := by decide +kernel
theorem dL_runs_286 : decode cL_runs 286 = .ok (.iload 11, 2) := by decide +kernel
theorem dL_runs_288 : decode cL_runs 288 = .ok (.invokevirtual 65, 3) := by decide +kernel
theorem dL_runs_291 : decode cL_runs 291 = .ok (.ifCond .le 24, 3) := by decide +kernel
theorem dL_runs_294 : decode cL_runs 294 = .ok (.aload_n 0, 1) := by decide +kernel
theorem dL_runs_295 : decode cL_runs 295 = .ok (.iload 11, 2) := by decide +kernel
theorem dL_runs_297 : decode cL_runs 297 = .ok (.iload 7, 2) := by decide +kernel
theorem dL_runs_299 : decode cL_runs 299 = .ok (.invokevirtual 68, 3) := by decide +kernel
theorem dL_runs_302 : decode cL_runs 302 = .ok (.aload_n 0, 1) := by decide +kernel
theorem dL_runs_303 : decode cL_runs 303 = .ok (.iload 11, 2) := by decide +kernel
theorem dL_runs_305 : decode cL_runs 305 = .ok (.invokevirtual 65, 3) := by decide +kernel
theorem dL_runs_308 : decode cL_runs 308 = .ok (.if_icmp .ne 7, 3) := by decide +kernel
theorem dL_runs_311 : decode cL_runs 311 = .ok (.iconst 1, 1) := by decide +kernel
theorem dL_runs_312 : decode cL_runs 312 = .ok (.goto 4, 3) := by decide +kernel
theorem dL_runs_315 : decode cL_runs 315 = .ok (.iconst 0, 1) := by decide +kernel
theorem dL_runs_316 : decode cL_runs 316 = .ok (.istore 12, 2) := by decide +kernel
theorem dL_runs_318 : decode cL_runs 318 = .ok (.iload 12, 2) := by decide +kernel
theorem dL_runs_320 : decode cL_runs 320 = .ok (.ifCond .eq 16, 3) := by decide +kernel
theorem dL_runs_323 : decode cL_runs 323 = .ok (.bipush 10, 2) := by decide +kernel
theorem dL_runs_325 : decode cL_runs 325 = .ok (.iload 7, 2) := by decide +kernel
theorem dL_runs_327 : decode cL_runs 327 = .ok (.imul, 1) := by decide +kernel
theorem dL_runs_328 : decode cL_runs 328 = .ok (.aload_n 2, 1) := by decide +kernel
theorem dL_runs_329 : decode cL_runs 329 = .ok (.iload 11, 2) := by decide +kernel
theorem dL_runs_331 : decode cL_runs 331 = .ok (.iaload, 1) := by decide +kernel
theorem dL_runs_332 : decode cL_runs 332 = .ok (.iadd, 1) := by decide +kernel
theorem dL_runs_333 : decode cL_runs 333 = .ok (.goto 5, 3) := by decide +kernel
theorem dL_runs_336 : decode cL_runs 336 = .ok (.iload 5, 2) := by decide +kernel
theorem dL_runs_338 : decode cL_runs 338 = .ok (.istore 5, 2) := by decide +kernel
theorem dL_runs_340 : decode cL_runs 340 = .ok (.iinc 11 (-1), 3) := by decide +kernel
theorem dL_runs_343 : decode cL_runs 343 = .ok (.goto (-113), 3) := by decide +kernel
theorem dL_runs_346 : decode cL_runs 346 = .ok (.iinc 7 (-1), 3) := by decide +kernel
theorem dL_runs_349 : decode cL_runs 349 = .ok (.goto (-316), 3) := by decide +kernel
theorem dL_runs_352 : decode cL_runs 352 = .ok (.aload_n 3, 1) := by decide +kernel
theorem dL_runs_353 : decode cL_runs 353 = .ok (.iconst 0, 1) := by decide +kernel
theorem dL_runs_354 : decode cL_runs 354 = .ok (.iaload, 1) := by decide +kernel
theorem dL_runs_355 : decode cL_runs 355 = .ok (.aload_n 3, 1) := by decide +kernel
theorem dL_runs_356 : decode cL_runs 356 = .ok (.iconst 1, 1) := by decide +kernel
theorem dL_runs_357 : decode cL_runs 357 = .ok (.iaload, 1) := by decide +kernel
theorem dL_runs_358 : decode cL_runs 358 = .ok (.imul, 1) := by decide +kernel
theorem dL_runs_359 : decode cL_runs 359 = .ok (.bipush 9, 2) := by decide +kernel
theorem dL_runs_361 : decode cL_runs 361 = .ok (.if_icmp .le 21, 3) := by decide +kernel
theorem dL_runs_364 : decode cL_runs 364 = .ok (.aload_n 2, 1) := by decide +kernel
theorem dL_runs_365 : decode cL_runs 365 = .ok (.aload_n 3, 1) := by decide +kernel
theorem dL_runs_366 : decode cL_runs 366 = .ok (.iconst 0, 1) := by decide +kernel
theorem dL_runs_367 : decode cL_runs 367 = .ok (.invokestatic 16, 3) := by decide +kernel
theorem dL_runs_370 : decode cL_runs 370 = .ok (.invokestatic 24, 3) := by decide +kernel
theorem dL_runs_373 : decode cL_runs 373 = .ok (.bipush 7, 2) := by decide +kernel
theorem dL_runs_375 : decode cL_runs 375 = .ok (.if_icmp .le 7, 3) := by decide +kernel
theorem dL_runs_378 : decode cL_runs 378 = .ok (.iconst (-1), 1) := by decide +kernel
theorem dL_runs_379 : decode cL_runs 379 = .ok (.goto 8, 3) := by decide +kernel
theorem dL_runs_382 : decode cL_runs 382 = .ok (.aload_n 0, 1) := by decide +kernel
theorem dL_runs_383 : decode cL_runs 383 = .ok (.iconst 5, 1) := by decide +kernel
theorem dL_runs_384 : decode cL_runs 384 = .ok (.invokevirtual 58, 3) := by decide +kernel
theorem dL_runs_387 : decode cL_runs 387 = .ok (.istore 7, 2) := by decide +kernel
theorem dL_runs_389 : decode cL_runs 389 = .ok (.aload_n 0, 1) := by decide +kernel
theorem dL_runs_390 : decode cL_runs 390 = .ok (.iload_n 1, 1) := by decide +kernel
theorem dL_runs_391 : decode cL_runs 391 = .ok (.invokevirtual 87, 3) := by decide +kernel
theorem dL_runs_394 : decode cL_runs 394 = .ok (.istore 8, 2) := by decide +kernel
theorem dL_runs_396 : decode cL_runs 396 = .ok (.iload 8, 2) := by decide +kernel
theorem dL_runs_398 : decode cL_runs 398 = .ok (.ifCond .lt 20, 3) := by decide +kernel
theorem dL_runs_401 : decode cL_runs 401 = .ok (.aload_n 2, 1) := by decide +kernel
theorem dL_runs_402 : decode cL_runs 402 = .ok (.aload_n 3, 1) := by decide +kernel
theorem dL_runs_403 : decode cL_runs 403 = .ok (.aload 4, 2) := by decide +kernel
theorem dL_runs_405 : decode cL_runs 405 = .ok (.iload 8, 2) := by decide +kernel
theorem dL_runs_407 : decode cL_runs 407 = .ok (.bipush 10, 2) := by decide +kernel
theorem dL_runs_409 : decode cL_runs 409 = .ok (.idiv, 1) := by decide +kernel
theorem dL_runs_410 : decode cL_runs 410 = .ok (.iload 8, 2) := by decide +kernel
theorem dL_runs_412 : decode cL_runs 412 = .ok (.bipush 10, 2) := by decide +kernel
theorem dL_runs_414 : decode cL_runs 414 = .ok (.irem, 1) := by decide +kernel
theorem dL_runs_415 : decode cL_runs 415 = .ok (.invokestatic 90, 3) := by decide +kernel
theorem dL_runs_418 : decode cL_runs 418 = .ok (.iload 8, 2) := by decide +kernel
theorem dL_runs_420 : decode cL_runs 420 = .ok (.iload 5, 2) := by decide +kernel
theorem dL_runs_422 : decode cL_runs 422 = .ok (.if_icmp .eq 13, 3) := by decide +kernel
theorem dL_runs_425 : decode cL_runs 425 = .ok (.iload_n 1, 1) := by decide +kernel
theorem dL_runs_426 : decode cL_runs 426 = .ok (.iconst 1, 1) := by decide +kernel
theorem dL_runs_427 : decode cL_runs 427 = .ok (.if_icmp .ne 27, 3) := by decide +kernel
theorem dL_runs_430 : decode cL_runs 430 = .ok (.iload 6, 2) := by decide +kernel
theorem dL_runs_432 : decode cL_runs 432 = .ok (.ifCond .ne 22, 3) := by decide +kernel
theorem dL_runs_435 : decode cL_runs 435 = .ok (.iload 7, 2) := by decide +kernel
theorem dL_runs_437 : decode cL_runs 437 = .ok (.ifCond .lt 13, 3) := by decide +kernel
theorem dL_runs_440 : decode cL_runs 440 = .ok (.aload_n 0, 1) := by decide +kernel
theorem dL_runs_441 : decode cL_runs 441 = .ok (.iconst 5, 1) := by decide +kernel
theorem dL_runs_442 : decode cL_runs 442 = .ok (.invokevirtual 58, 3) := by decide +kernel
theorem dL_runs_445 : decode cL_runs 445 = .ok (.iload 7, 2) := by decide +kernel
theorem dL_runs_447 : decode cL_runs 447 = .ok (.if_icmp .ne 7, 3) := by decide +kernel
theorem dL_runs_450 : decode cL_runs 450 = .ok (.iconst 1, 1) := by decide +kernel
theorem dL_runs_451 : decode cL_runs 451 = .ok (.goto 4, 3) := by decide +kernel
theorem dL_runs_454 : decode cL_runs 454 = .ok (.iconst 0, 1) := by decide +kernel
theorem dL_runs_455 : decode cL_runs 455 = .ok (.ireturn, 1) := by decide +kernel
set_option maxRecDepth 20000 in
theorem ggL_makes_X4_make : GoodIn wsL_makes wsX4_make := goodIn_ca (goodIn_r _ [5, 6, 7, 8, 9, 10, 11, 12, 13, 14, 15, 16, 17, 18, 19, 20, 21, 22, 23, 24, 25, 26, 27, 28, 29, 30, 31, 32, 33, 34, 35, 36, 37, 38, 39, 40, 41, 42, 43, 44, 45, 46, 47, 48, 49, 50, 51, 52, 53, 54, 55, 56, 57, 58, 59, 60, 61, 62, 63, 64, 65, 66, 67, 68, 69, 70, 71, 72, 73, 74, 75, 76, 77, 78, 79, 80, 81, 82, 83, 84, 85, 86, 87, 88, 89, 90, 91, 92, 93, 94, 95, 96, 97, 98, 99, 100, 101, 102, 103, 104, 105, 106, 4, 107, 108, 109, 110, 111, 112, 113, 114, 115, 116, 117, 118, 119, 120, 139, 140, 141, 142, 143, 144, 145, 146, 147, 148, 149, 150, 151] (by decide +kernel) (by decide +kernel)) (goodIn_sub (fun _ h => List.mem_cons_of_mem _ (List.mem_append_left _ (List.mem_append_right _ h))) (by decide +kernel))
set_option maxRecDepth 20000 in
theorem gL_makes_X4_make : GoodIn wsL_makes (wsV RL 94 RX4 yX4_make wsX4_make) := goodIn_app (goodIn_of _ (by decide +kernel)) ggL_makes_X4_make
set_option maxRecDepth 20000 in
theorem ggL_makes_X4_at : GoodIn wsL_makes wsX4_at := goodIn_ca (goodIn_r _ [124, 115, 125, 126, 127, 4, 128, 129, 130, 30, 20, 31, 32, 24, 33, 34, 35, 36, 37, 38, 39, 83, 84, 85, 23, 68, 69, 70, 71, 72, 73, 140, 141, 142, 143, 144, 145, 146, 147, 148, 149, 150] (by decide +kernel) (by decide +kernel)) (goodIn_sub (fun _ h => List.mem_cons_of_mem _ (List.mem_append_right _ h)) (by decide +kernel))
set_option maxRecDepth 20000 in
theorem gL_makes_X4_at : GoodIn wsL_makes (wsV RL 41 RX4 yX4_at wsX4_at) := goodIn_app (goodIn_of _ (by decide +kernel)) ggL_makes_X4_at
set_option maxRecDepth 20000 in
theorem ggL_makes_X4_solutions : GoodIn wsL_makes wsX4_solutions := goodIn_ca (goodIn_r _ [134, 6, 7, 115, 108, 26, 109, 30, 20, 31, 32, 24, 33, 34, 35, 36, 37, 38, 39, 83, 84, 85, 23, 68, 69, 70, 71, 72, 73, 50, 51, 52, 53, 54, 55, 56, 57, 58, 59, 60, 61, 62, 63, 64, 65, 66, 67, 74, 75, 76, 77, 78, 79, 80, 81, 82, 86, 87, 88, 89, 90, 91, 92, 93, 94, 95, 96, 97, 98, 99, 100, 101, 102, 103, 110, 140, 141, 142, 143, 144, 145, 146, 147, 148, 149, 150] (by decide +kernel) (by decide +kernel)) (goodIn_sub (fun _ h => List.mem_cons_of_mem _ (List.mem_append_left _ (List.mem_append_right _ h))) (by decide +kernel))
set_option maxRecDepth 20000 in
theorem gL_makes_X4_solutions : GoodIn wsL_makes (wsV RL 58 RX4 yX4_solutions wsX4_solutions) := goodIn_app (goodIn_of _ (by decide +kernel)) ggL_makes_X4_solutions
set_option maxRecDepth 20000 in
theorem ggL_makes_X4_isClue : GoodIn wsL_makes wsX4_isClue := goodIn_ca (goodIn_r _ [138, 11, 125, 126, 127, 4, 128, 129, 130, 115, 30, 20, 31, 32, 24, 33, 34, 35, 36, 37, 38, 39, 83, 84, 85, 23, 68, 69, 70, 71, 72, 73, 140, 141, 142, 143, 144, 145, 146, 147, 148, 149, 150] (by decide +kernel) (by decide +kernel)) (goodIn_sub (fun _ h => List.mem_cons_of_mem _ (List.mem_append_right _ h)) (by decide +kernel))
set_option maxRecDepth 20000 in
theorem gL_makes_X4_isClue : GoodIn wsL_makes (wsV RL 44 RX4 yX4_isClue wsX4_isClue) := goodIn_app (goodIn_of _ (by decide +kernel)) ggL_makes_X4_isClue
theorem dL_makes_0 : decode cL_makes 0 = .ok (.aload_n 0, 1) := by decide +kernel
theorem dL_makes_1 : decode cL_makes 1 = .ok (.iload_n 1, 1) := by decide +kernel
theorem dL_makes_2 : decode cL_makes 2 = .ok (.invokevirtual 94, 3) := by decide +kernel
theorem dL_makes_5 : decode cL_makes 5 = .ok (.istore 5, 2) := by decide +kernel
theorem dL_makes_7 : decode cL_makes 7 = .ok (.iconst 0, 1) := by decide +kernel
theorem dL_makes_8 : decode cL_makes 8 = .ok (.istore 6, 2) := by decide +kernel
theorem dL_makes_10 : decode cL_makes 10 = .ok (.iconst 0, 1) := by decide +kernel
theorem dL_makes_11 : decode cL_makes 11 = .ok (.istore 7, 2) := by decide +kernel
theorem dL_makes_13 : decode cL_makes 13 = .ok (.iload 7, 2) := by decide +kernel
theorem dL_makes_15 : decode cL_makes 15 = .ok (.bipush 12, 2) := by decide +kernel
theorem dL_makes_17 : decode cL_makes 17 = .ok (.if_icmp .ge 62, 3) := by decide +kernel
theorem dL_makes_20 : decode cL_makes 20 = .ok (.aload_n 2, 1) := by decide +kernel
theorem dL_makes_21 : decode cL_makes 21 = .ok (.iload 7, 2) := by decide +kernel
theorem dL_makes_23 : decode cL_makes 23 = .ok (.iload 7, 2) := by decide +kernel
theorem dL_makes_25 : decode cL_makes 25 = .ok (.aload 4, 2) := by decide +kernel
theorem dL_makes_27 : decode cL_makes 27 = .ok (.iconst 0, 1) := by decide +kernel
theorem dL_makes_28 : decode cL_makes 28 = .ok (.iaload, 1) := by decide +kernel
theorem dL_makes_29 : decode cL_makes 29 = .ok (.aload 4, 2) := by decide +kernel
