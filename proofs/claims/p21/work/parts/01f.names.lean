theorem dL_makes_31 : decode cL_makes 31 = .ok (.iconst 1, 1) := by decide +kernel
theorem dL_makes_32 : decode cL_makes 32 = .ok (.iaload, 1) := by decide +kernel
theorem dL_makes_33 : decode cL_makes 33 = .ok (.imul, 1) := by decide +kernel
theorem dL_makes_34 : decode cL_makes 34 = .ok (.if_icmp .ge 12, 3) := by decide +kernel
theorem dL_makes_37 : decode cL_makes 37 = .ok (.aload_n 0, 1) := by decide +kernel
theorem dL_makes_38 : decode cL_makes 38 = .ok (.iload 7, 2) := by decide +kernel
theorem dL_makes_40 : decode cL_makes 40 = .ok (.invokevirtual 41, 3) := by decide +kernel
theorem dL_makes_43 : decode cL_makes 43 = .ok (.goto 4, 3) := by decide +kernel
theorem dL_makes_46 : decode cL_makes 46 = .ok (.iconst 0, 1) := by decide +kernel
theorem dL_makes_47 : decode cL_makes 47 = .ok (.iastore, 1) := by decide +kernel
theorem dL_makes_48 : decode cL_makes 48 = .ok (.aload_n 3, 1) := by decide +kernel
theorem dL_makes_49 : decode cL_makes 49 = .ok (.iload 7, 2) := by decide +kernel
theorem dL_makes_51 : decode cL_makes 51 = .ok (.aload_n 2, 1) := by decide +kernel
theorem dL_makes_52 : decode cL_makes 52 = .ok (.iload 7, 2) := by decide +kernel
theorem dL_makes_54 : decode cL_makes 54 = .ok (.iaload, 1) := by decide +kernel
theorem dL_makes_55 : decode cL_makes 55 = .ok (.ifCond .le 7, 3) := by decide +kernel
theorem dL_makes_58 : decode cL_makes 58 = .ok (.iconst 1, 1) := by decide +kernel
theorem dL_makes_59 : decode cL_makes 59 = .ok (.goto 4, 3) := by decide +kernel
theorem dL_makes_62 : decode cL_makes 62 = .ok (.iconst 0, 1) := by decide +kernel
theorem dL_makes_63 : decode cL_makes 63 = .ok (.iastore, 1) := by decide +kernel
theorem dL_makes_64 : decode cL_makes 64 = .ok (.iload 6, 2) := by decide +kernel
theorem dL_makes_66 : decode cL_makes 66 = .ok (.aload_n 3, 1) := by decide +kernel
theorem dL_makes_67 : decode cL_makes 67 = .ok (.iload 7, 2) := by decide +kernel
theorem dL_makes_69 : decode cL_makes 69 = .ok (.iaload, 1) := by decide +kernel
theorem dL_makes_70 : decode cL_makes 70 = .ok (.iadd, 1) := by decide +kernel
theorem dL_makes_71 : decode cL_makes 71 = .ok (.istore 6, 2) := by decide +kernel
theorem dL_makes_73 : decode cL_makes 73 = .ok (.iinc 7 1, 3) := by decide +kernel
theorem dL_makes_76 : decode cL_makes 76 = .ok (.goto (-63), 3) := by decide +kernel
theorem dL_makes_79 : decode cL_makes 79 = .ok (.aload 4, 2) := by decide +kernel
theorem dL_makes_81 : decode cL_makes 81 = .ok (.iconst 2, 1) := by decide +kernel
theorem dL_makes_82 : decode cL_makes 82 = .ok (.iconst 0, 1) := by decide +kernel
theorem dL_makes_83 : decode cL_makes 83 = .ok (.iastore, 1) := by decide +kernel
theorem dL_makes_84 : decode cL_makes 84 = .ok (.iload 5, 2) := by decide +kernel
theorem dL_makes_86 : decode cL_makes 86 = .ok (.iload 6, 2) := by decide +kernel
theorem dL_makes_88 : decode cL_makes 88 = .ok (.if_icmp .ne 26, 3) := by decide +kernel
theorem dL_makes_91 : decode cL_makes 91 = .ok (.aload_n 0, 1) := by decide +kernel
theorem dL_makes_92 : decode cL_makes 92 = .ok (.iconst 5, 1) := by decide +kernel
theorem dL_makes_93 : decode cL_makes 93 = .ok (.invokevirtual 58, 3) := by decide +kernel
theorem dL_makes_96 : decode cL_makes 96 = .ok (.iconst 1, 1) := by decide +kernel
theorem dL_makes_97 : decode cL_makes 97 = .ok (.if_icmp .ne 17, 3) := by decide +kernel
theorem dL_makes_100 : decode cL_makes 100 = .ok (.aload_n 0, 1) := by decide +kernel
theorem dL_makes_101 : decode cL_makes 101 = .ok (.iload_n 1, 1) := by decide +kernel
theorem dL_makes_102 : decode cL_makes 102 = .ok (.invokevirtual 94, 3) := by decide +kernel
theorem dL_makes_105 : decode cL_makes 105 = .ok (.iload 5, 2) := by decide +kernel
theorem dL_makes_107 : decode cL_makes 107 = .ok (.if_icmp .ne 7, 3) := by decide +kernel
theorem dL_makes_110 : decode cL_makes 110 = .ok (.iconst 1, 1) := by decide +kernel
theorem dL_makes_111 : decode cL_makes 111 = .ok (.goto 4, 3) := by decide +kernel
theorem dL_makes_114 : decode cL_makes 114 = .ok (.iconst 0, 1) := by decide +kernel
theorem dL_makes_115 : decode cL_makes 115 = .ok (.istore 7, 2) := by decide +kernel
theorem dL_makes_117 : decode cL_makes 117 = .ok (.iconst 0, 1) := by decide +kernel
theorem dL_makes_118 : decode cL_makes 118 = .ok (.istore 8, 2) := by decide +kernel
theorem dL_makes_120 : decode cL_makes 120 = .ok (.iload 8, 2) := by decide +kernel
theorem dL_makes_122 : decode cL_makes 122 = .ok (.aload 4, 2) := by decide +kernel
theorem dL_makes_124 : decode cL_makes 124 = .ok (.iconst 0, 1) := by decide +kernel
theorem dL_makes_125 : decode cL_makes 125 = .ok (.iaload, 1) := by decide +kernel
theorem dL_makes_126 : decode cL_makes 126 = .ok (.aload 4, 2) := by decide +kernel
theorem dL_makes_128 : decode cL_makes 128 = .ok (.iconst 1, 1) := by decide +kernel
theorem dL_makes_129 : decode cL_makes 129 = .ok (.iaload, 1) := by decide +kernel
theorem dL_makes_130 : decode cL_makes 130 = .ok (.imul, 1) := by decide +kernel
theorem dL_makes_131 : decode cL_makes 131 = .ok (.if_icmp .ge 55, 3) := by decide +kernel
theorem dL_makes_134 : decode cL_makes 134 = .ok (.iload 7, 2) := by decide +kernel
theorem dL_makes_136 : decode cL_makes 136 = .ok (.ifCond .eq 50, 3) := by decide +kernel
theorem dL_makes_139 : decode cL_makes 139 = .ok (.aload_n 0, 1) := by decide +kernel
theorem dL_makes_140 : decode cL_makes 140 = .ok (.iload 8, 2) := by decide +kernel
theorem dL_makes_142 : decode cL_makes 142 = .ok (.invokevirtual 41, 3) := by decide +kernel
theorem dL_makes_145 : decode cL_makes 145 = .ok (.aload_n 2, 1) := by decide +kernel
theorem dL_makes_146 : decode cL_makes 146 = .ok (.iload 8, 2) := by decide +kernel
theorem dL_makes_148 : decode cL_makes 148 = .ok (.iaload, 1) := by decide +kernel
theorem dL_makes_149 : decode cL_makes 149 = .ok (.if_icmp .ne 28, 3) := by decide +kernel
theorem dL_makes_152 : decode cL_makes 152 = .ok (.aload_n 0, 1) := by decide +kernel
theorem dL_makes_153 : decode cL_makes 153 = .ok (.iload 8, 2) := by decide +kernel
theorem dL_makes_155 : decode cL_makes 155 = .ok (.invokevirtual 44, 3) := by decide +kernel
theorem dL_makes_158 : decode cL_makes 158 = .ok (.aload_n 2, 1) := by decide +kernel
theorem dL_makes_159 : decode cL_makes 159 = .ok (.iload 8, 2) := by decide +kernel
theorem dL_makes_161 : decode cL_makes 161 = .ok (.iaload, 1) := by decide +kernel
theorem dL_makes_162 : decode cL_makes 162 = .ok (.ifCond .le 7, 3) := by decide +kernel
theorem dL_makes_165 : decode cL_makes 165 = .ok (.iconst 1, 1) := by decide +kernel
theorem dL_makes_166 : decode cL_makes 166 = .ok (.goto 4, 3) := by decide +kernel
theorem dL_makes_169 : decode cL_makes 169 = .ok (.iconst 0, 1) := by decide +kernel
theorem dL_makes_170 : decode cL_makes 170 = .ok (.if_icmp .ne 7, 3) := by decide +kernel
theorem dL_makes_173 : decode cL_makes 173 = .ok (.iconst 1, 1) := by decide +kernel
theorem dL_makes_174 : decode cL_makes 174 = .ok (.goto 4, 3) := by decide +kernel
theorem dL_makes_177 : decode cL_makes 177 = .ok (.iconst 0, 1) := by decide +kernel
theorem dL_makes_178 : decode cL_makes 178 = .ok (.istore 7, 2) := by decide +kernel
theorem dL_makes_180 : decode cL_makes 180 = .ok (.iinc 8 1, 3) := by decide +kernel
theorem dL_makes_183 : decode cL_makes 183 = .ok (.goto (-63), 3) := by decide +kernel
theorem dL_makes_186 : decode cL_makes 186 = .ok (.iload 7, 2) := by decide +kernel
theorem dL_makes_188 : decode cL_makes 188 = .ok (.ireturn, 1) := by decide +kernel
set_option maxRecDepth 20000 in
theorem ggL_step_X4_lay : GoodIn wsL_step wsX4_lay := goodIn_ca (goodIn_r _ [5, 6, 7, 8, 9, 10, 11, 4, 12, 13, 14, 15, 16, 17, 18, 19, 20, 21, 22, 23, 24, 25, 26, 27, 28, 29, 30, 31, 32, 33, 34, 35, 36, 37, 38, 39, 40, 41, 42, 43, 44, 45, 46, 290, 291, 292, 293, 294, 295, 296, 297, 298, 299, 300] (by decide +kernel) (by decide +kernel)) (goodIn_sub (fun _ h => List.mem_cons_of_mem _ (List.mem_append_left _ (List.mem_append_left _ (List.mem_append_right _ h)))) (by decide +kernel))
set_option maxRecDepth 20000 in
theorem gL_step_X4_lay : GoodIn wsL_step (wsV RL 97 RX4 yX4_lay wsX4_lay) := goodIn_app (goodIn_of _ (by decide +kernel)) ggL_step_X4_lay
set_option maxRecDepth 20000 in
theorem ggL_step_L_sets : GoodIn wsL_step wsL_sets := goodIn_ca (goodIn_ca (goodIn_ca (goodIn_r _ [50, 51, 52, 53, 49, 54, 55, 56, 57, 58, 59, 60, 61, 62, 63, 64, 65, 66, 67, 68, 69, 70, 71, 72, 73, 4, 74, 75, 76, 8, 77, 78, 79, 80, 81, 82, 9, 37, 14, 38, 39, 18, 40, 41, 42, 43, 44, 45, 46, 83, 84, 85, 6, 7, 86, 87, 88, 28, 89, 90, 91, 21, 22, 23, 92, 93, 94, 95, 96, 97, 98, 99, 100, 101, 102, 103, 104, 105, 106, 107, 108, 109, 110, 111, 112, 113, 114, 115, 116, 19, 20, 17, 117, 118, 119, 120, 121, 122, 123, 124, 29, 30, 31, 32, 33, 34, 35, 36, 290, 291, 292, 293, 294, 295, 296, 297, 298, 299, 300] (by decide +kernel) (by decide +kernel)) (goodIn_sub (fun _ h => List.mem_cons_of_mem _ (List.mem_append_left _ (List.mem_append_right _ h))) (by decide +kernel))) (goodIn_sub (fun _ h => List.mem_cons_of_mem _ (List.mem_append_right _ h)) (by decide +kernel))) (goodIn_sub (fun _ h => List.mem_cons_of_mem _ (List.mem_append_left _ (List.mem_append_left _ (List.mem_append_right _ h)))) (by decide +kernel))
set_option maxRecDepth 20000 in
theorem gL_step_L_sets : GoodIn wsL_step (va_wsS RL 100 yL_sets wsL_sets) := goodIn_app (goodIn_of _ (by decide +kernel)) ggL_step_L_sets
set_option maxRecDepth 20000 in
theorem ggL_step_L_makes : GoodIn wsL_step wsL_makes := goodIn_ca (goodIn_ca (goodIn_r _ [127, 128, 129, 130, 4, 131, 6, 7, 132, 133, 134, 8, 135, 136, 137, 138, 139, 140, 141, 25, 14, 26, 27, 28, 18, 142, 143, 144, 145, 146, 37, 38, 39, 40, 41, 42, 43, 44, 45, 46, 147, 148, 149, 150, 151, 152, 153, 154, 155, 156, 157, 158, 159, 102, 103, 104, 105, 160, 161, 162, 163, 121, 122, 123, 124, 164, 165, 166, 89, 90, 91, 21, 22, 23, 167, 92, 93, 94, 168, 169, 170, 171, 172, 86, 87, 88, 109, 110, 111, 112, 113, 114, 115, 116, 19, 20, 17, 117, 118, 119, 120, 106, 107, 108, 173, 174, 175, 176, 177, 178, 179, 29, 30, 31, 32, 9, 33, 34, 35, 36, 180, 181, 182, 183, 184, 77, 78, 79, 80, 81, 82, 185, 186, 187, 188, 189, 190, 191, 192, 301, 290, 291, 292, 293, 294, 295, 296, 297, 298, 299, 300, 302] (by decide +kernel) (by decide +kernel)) (goodIn_sub (fun _ h => List.mem_cons_of_mem _ (List.mem_append_left _ (List.mem_append_left _ (List.mem_append_right _ h)))) (by decide +kernel))) (goodIn_sub (fun _ h => List.mem_cons_of_mem _ (List.mem_append_right _ h)) (by decide +kernel))
set_option maxRecDepth 20000 in
theorem gL_step_L_makes : GoodIn wsL_step (va_wsS RL 104 yL_makes wsL_makes) := goodIn_app (goodIn_of _ (by decide +kernel)) ggL_step_L_makes
set_option maxRecDepth 20000 in
theorem ggL_step_X4_canBe : GoodIn wsL_step wsX4_canBe := goodIn_ca (goodIn_ca (goodIn_r _ [196, 9, 77, 78, 79, 4, 80, 81, 82, 37, 14, 38, 39, 18, 40, 41, 42, 43, 44, 45, 46, 83, 84, 85, 6, 7, 164, 165, 166, 121, 122, 123, 124, 102, 103, 104, 105, 28, 89, 90, 91, 21, 22, 23, 167, 92, 93, 94, 168, 169, 170, 171, 172, 86, 87, 88, 109, 110, 111, 112, 113, 114, 115, 116, 19, 20, 17, 117, 118, 119, 120, 106, 107, 108, 290, 291, 292, 293, 294, 295, 296, 297, 298, 299, 300] (by decide +kernel) (by decide +kernel)) (goodIn_sub (fun _ h => List.mem_cons_of_mem _ (List.mem_append_right _ h)) (by decide +kernel))) (goodIn_sub (fun _ h => List.mem_cons_of_mem _ (List.mem_append_left _ (List.mem_append_left _ (List.mem_append_right _ h)))) (by decide +kernel))
set_option maxRecDepth 20000 in
theorem gL_step_X4_canBe : GoodIn wsL_step (wsV RL 61 RX4 yX4_canBe wsX4_canBe) := goodIn_app (goodIn_of _ (by decide +kernel)) ggL_step_X4_canBe
set_option maxRecDepth 20000 in
theorem ggL_step_L_fills : GoodIn wsL_step wsL_fills := goodIn_ca (goodIn_ca (goodIn_ca (goodIn_r _ [199, 70, 200, 201, 202, 4, 203, 75, 76, 9, 77, 78, 79, 80, 81, 82, 37, 14, 38, 39, 18, 40, 41, 42, 43, 44, 45, 46, 83, 84, 85, 6, 7, 164, 165, 166, 121, 122, 123, 124, 102, 103, 104, 105, 28, 89, 90, 91, 21, 22, 23, 167, 92, 93, 94, 168, 169, 170, 171, 172, 86, 87, 88, 109, 110, 111, 112, 113, 114, 115, 116, 19, 20, 17, 117, 118, 119, 120, 106, 107, 108, 204, 205, 206, 207, 33, 208, 180, 290, 291, 292, 293, 294, 295, 296, 297, 298, 299, 300] (by decide +kernel) (by decide +kernel)) (goodIn_sub (fun _ h => List.mem_cons_of_mem _ (List.mem_append_left _ (List.mem_append_right _ h))) (by decide +kernel))) (goodIn_sub (fun _ h => List.mem_cons_of_mem _ (List.mem_append_right _ h)) (by decide +kernel))) (goodIn_sub (fun _ h => List.mem_cons_of_mem _ (List.mem_append_left _ (List.mem_append_left _ (List.mem_append_right _ h)))) (by decide +kernel))
set_option maxRecDepth 20000 in
theorem gL_step_L_fills : GoodIn wsL_step (va_wsS RL 108 yL_fills wsL_fills) := goodIn_app (goodIn_of _ (by decide +kernel)) ggL_step_L_fills
set_option maxRecDepth 20000 in
theorem ggL_step_L_noted : GoodIn wsL_step wsL_noted := goodIn_r _ [211] (by decide +kernel) (by decide +kernel)
set_option maxRecDepth 20000 in
theorem gL_step_L_noted : GoodIn wsL_step (va_wsS RL 90 yL_noted wsL_noted) := goodIn_app (goodIn_of _ (by decide +kernel)) ggL_step_L_noted
set_option maxRecDepth 20000 in
theorem ggL_step_X4_size : GoodIn wsL_step wsX4_size := goodIn_ca (goodIn_r _ [215, 9, 77, 78, 79, 4, 80, 81, 82, 37, 14, 38, 39, 18, 40, 41, 42, 43, 44, 45, 46, 169, 170, 171, 172, 86, 87, 88, 28, 89, 90, 91, 21, 22, 23, 102, 103, 104, 105, 109, 110, 111, 112, 113, 114, 115, 116, 19, 20, 17, 180, 290, 291, 292, 293, 294, 295, 296, 297, 298, 299, 300] (by decide +kernel) (by decide +kernel)) (goodIn_sub (fun _ h => List.mem_cons_of_mem _ (List.mem_append_right _ h)) (by decide +kernel))
set_option maxRecDepth 20000 in
theorem gL_step_X4_size : GoodIn wsL_step (wsV RL 48 RX4 yX4_size wsX4_size) := goodIn_app (goodIn_of _ (by decide +kernel)) ggL_step_X4_size
set_option maxRecDepth 20000 in
theorem ggL_step_X4_undo : GoodIn wsL_step wsX4_undo := goodIn_ca (goodIn_r _ [219, 75, 76, 33, 208, 9, 92, 14, 93, 94, 28, 21, 22, 23, 290, 291, 292, 293, 294, 295, 296, 297, 298, 299, 300] (by decide +kernel) (by decide +kernel)) (goodIn_sub (fun _ h => List.mem_cons_of_mem _ (List.mem_append_left _ (List.mem_append_right _ h))) (by decide +kernel))
set_option maxRecDepth 20000 in
theorem gL_step_X4_undo : GoodIn wsL_step (wsV RL 111 RX4 yX4_undo wsX4_undo) := goodIn_app (goodIn_of _ (by decide +kernel)) ggL_step_X4_undo
set_option maxRecDepth 20000 in
theorem ggL_step_L_runs : GoodIn wsL_step wsL_runs := goodIn_ca (goodIn_ca (goodIn_r _ [222, 193, 194, 195, 4, 196, 9, 77, 78, 79, 80, 81, 82, 37, 14, 38, 39, 18, 40, 41, 42, 43, 44, 45, 46, 83, 84, 85, 6, 7, 164, 165, 166, 121, 122, 123, 124, 102, 103, 104, 105, 28, 89, 90, 91, 21, 22, 23, 167, 92, 93, 94, 168, 169, 170, 171, 172, 86, 87, 88, 109, 110, 111, 112, 113, 114, 115, 116, 19, 20, 17, 117, 118, 119, 120, 106, 107, 108, 61, 62, 49, 63, 223, 224, 225, 226, 227, 228, 229, 212, 213, 214, 215, 180, 230, 231, 232, 233, 234, 235, 236, 237, 238, 239, 240, 241, 242, 243, 244, 245, 246, 247, 248, 249, 250, 251, 252, 253, 254, 255, 256, 257, 258, 259, 260, 261, 262, 55, 56, 57, 64, 65, 66, 185, 186, 187, 188, 177, 143, 178, 157, 158, 159, 160, 161, 162, 163, 179, 263, 264, 265, 266, 267, 268, 269, 270, 271, 272, 273, 274, 275, 276, 277, 278, 279, 280, 281, 282, 283, 284, 285, 286, 287, 288, 289, 204, 205, 206, 207, 33, 208, 209, 210, 211, 290, 291, 292, 293, 294, 295, 296, 297, 298, 299, 300, 303, 304, 305] (by decide +kernel) (by decide +kernel)) (goodIn_sub (fun _ h => List.mem_cons_of_mem _ (List.mem_append_right _ h)) (by decide +kernel))) (goodIn_sub (fun _ h => List.mem_cons_of_mem _ (List.mem_append_left _ (List.mem_append_left _ (List.mem_append_right _ h)))) (by decide +kernel))
set_option maxRecDepth 20000 in
theorem gL_step_L_runs : GoodIn wsL_step (va_wsS RL 114 yL_runs wsL_runs) := goodIn_app (goodIn_of _ (by decide +kernel)) ggL_step_L_runs
theorem dL_step_0 : decode cL_step 0 = .ok (.iload_n 2, 1) := by decide +kernel
theorem dL_step_1 : decode cL_step 1 = .ok (.aload 6, 2) := by decide +kernel
theorem dL_step_3 : decode cL_step 3 = .ok (.iconst 0, 1) := by decide +kernel
theorem dL_step_4 : decode cL_step 4 = .ok (.iaload, 1) := by decide +kernel
theorem dL_step_5 : decode cL_step 5 = .ok (.aload 6, 2) := by decide +kernel
theorem dL_step_7 : decode cL_step 7 = .ok (.iconst 1, 1) := by decide +kernel
theorem dL_step_8 : decode cL_step 8 = .ok (.iaload, 1) := by decide +kernel
theorem dL_step_9 : decode cL_step 9 = .ok (.imul, 1) := by decide +kernel
theorem dL_step_10 : decode cL_step 10 = .ok (.irem, 1) := by decide +kernel
theorem dL_step_11 : decode cL_step 11 = .ok (.istore 8, 2) := by decide +kernel
theorem dL_step_13 : decode cL_step 13 = .ok (.iload_n 1, 1) := by decide +kernel
theorem dL_step_14 : decode cL_step 14 = .ok (.ifCond .ne 100, 3) := by decide +kernel
theorem dL_step_17 : decode cL_step 17 = .ok (.aload 6, 2) := by decide +kernel
theorem dL_step_19 : decode cL_step 19 = .ok (.iconst 0, 1) := by decide +kernel
theorem dL_step_20 : decode cL_step 20 = .ok (.iconst 2, 1) := by decide +kernel
theorem dL_step_21 : decode cL_step 21 = .ok (.iload_n 2, 1) := by decide +kernel
theorem dL_step_22 : decode cL_step 22 = .ok (.iconst 3, 1) := by decide +kernel
theorem dL_step_23 : decode cL_step 23 = .ok (.irem, 1) := by decide +kernel
theorem dL_step_24 : decode cL_step 24 = .ok (.iadd, 1) := by decide +kernel
theorem dL_step_25 : decode cL_step 25 = .ok (.iastore, 1) := by decide +kernel
theorem dL_step_26 : decode cL_step 26 = .ok (.aload 6, 2) := by decide +kernel
theorem dL_step_28 : decode cL_step 28 = .ok (.iconst 1, 1) := by decide +kernel
theorem dL_step_29 : decode cL_step 29 = .ok (.aload 6, 2) := by decide +kernel
theorem dL_step_31 : decode cL_step 31 = .ok (.iconst 0, 1) := by decide +kernel
theorem dL_step_32 : decode cL_step 32 = .ok (.iaload, 1) := by decide +kernel
theorem dL_step_33 : decode cL_step 33 = .ok (.iconst 4, 1) := by decide +kernel
theorem dL_step_34 : decode cL_step 34 = .ok (.if_icmp .ne 11, 3) := by decide +kernel
theorem dL_step_37 : decode cL_step 37 = .ok (.iconst 2, 1) := by decide +kernel
theorem dL_step_38 : decode cL_step 38 = .ok (.iload_n 3, 1) := by decide +kernel
theorem dL_step_39 : decode cL_step 39 = .ok (.iconst 2, 1) := by decide +kernel
theorem dL_step_40 : decode cL_step 40 = .ok (.irem, 1) := by decide +kernel
theorem dL_step_41 : decode cL_step 41 = .ok (.iadd, 1) := by decide +kernel
theorem dL_step_42 : decode cL_step 42 = .ok (.goto 8, 3) := by decide +kernel
theorem dL_step_45 : decode cL_step 45 = .ok (.iconst 2, 1) := by decide +kernel
theorem dL_step_46 : decode cL_step 46 = .ok (.iload_n 3, 1) := by decide +kernel
theorem dL_step_47 : decode cL_step 47 = .ok (.iconst 3, 1) := by decide +kernel
theorem dL_step_48 : decode cL_step 48 = .ok (.irem, 1) := by decide +kernel
theorem dL_step_49 : decode cL_step 49 = .ok (.iadd, 1) := by decide +kernel
theorem dL_step_50 : decode cL_step 50 = .ok (.iastore, 1) := by decide +kernel
theorem dL_step_51 : decode cL_step 51 = .ok (.aload 6, 2) := by decide +kernel
theorem dL_step_53 : decode cL_step 53 = .ok (.iconst 2, 1) := by decide +kernel
theorem dL_step_54 : decode cL_step 54 = .ok (.iconst 0, 1) := by decide +kernel
theorem dL_step_55 : decode cL_step 55 = .ok (.iastore, 1) := by decide +kernel
theorem dL_step_56 : decode cL_step 56 = .ok (.iconst 0, 1) := by decide +kernel
theorem dL_step_57 : decode cL_step 57 = .ok (.istore 9, 2) := by decide +kernel
theorem dL_step_59 : decode cL_step 59 = .ok (.iload 9, 2) := by decide +kernel
theorem dL_step_61 : decode cL_step 61 = .ok (.bipush 12, 2) := by decide +kernel
theorem dL_step_63 : decode cL_step 63 = .ok (.if_icmp .ge 21, 3) := by decide +kernel
theorem dL_step_66 : decode cL_step 66 = .ok (.aload 4, 2) := by decide +kernel
theorem dL_step_68 : decode cL_step 68 = .ok (.iload 9, 2) := by decide +kernel
theorem dL_step_70 : decode cL_step 70 = .ok (.iconst 0, 1) := by decide +kernel
theorem dL_step_71 : decode cL_step 71 = .ok (.iastore, 1) := by decide +kernel
theorem dL_step_72 : decode cL_step 72 = .ok (.aload 5, 2) := by decide +kernel
theorem dL_step_74 : decode cL_step 74 = .ok (.iload 9, 2) := by decide +kernel
theorem dL_step_76 : decode cL_step 76 = .ok (.iconst 0, 1) := by decide +kernel
theorem dL_step_77 : decode cL_step 77 = .ok (.iastore, 1) := by decide +kernel
theorem dL_step_78 : decode cL_step 78 = .ok (.iinc 9 1, 3) := by decide +kernel
theorem dL_step_81 : decode cL_step 81 = .ok (.goto (-22), 3) := by decide +kernel
theorem dL_step_84 : decode cL_step 84 = .ok (.aload_n 0, 1) := by decide +kernel
theorem dL_step_85 : decode cL_step 85 = .ok (.aload 6, 2) := by decide +kernel
theorem dL_step_87 : decode cL_step 87 = .ok (.iconst 0, 1) := by decide +kernel
theorem dL_step_88 : decode cL_step 88 = .ok (.iaload, 1) := by decide +kernel
theorem dL_step_89 : decode cL_step 89 = .ok (.aload 6, 2) := by decide +kernel
theorem dL_step_91 : decode cL_step 91 = .ok (.iconst 1, 1) := by decide +kernel
theorem dL_step_92 : decode cL_step 92 = .ok (.iaload, 1) := by decide +kernel
theorem dL_step_93 : decode cL_step 93 = .ok (.invokevirtual 97, 3) := by decide +kernel
theorem dL_step_96 : decode cL_step 96 = .ok (.aload 6, 2) := by decide +kernel
theorem dL_step_98 : decode cL_step 98 = .ok (.iconst 0, 1) := by decide +kernel
theorem dL_step_99 : decode cL_step 99 = .ok (.iaload, 1) := by decide +kernel
theorem dL_step_100 : decode cL_step 100 = .ok (.aload 6, 2) := by decide +kernel
theorem dL_step_102 : decode cL_step 102 = .ok (.iconst 1, 1) := by decide +kernel
theorem dL_step_103 : decode cL_step 103 = .ok (.iaload, 1) := by decide +kernel
theorem dL_step_104 : decode cL_step 104 = .ok (.imul, 1) := by decide +kernel
theorem dL_step_105 : decode cL_step 105 = .ok (.if_icmp .ne 7, 3) := by decide +kernel
theorem dL_step_108 : decode cL_step 108 = .ok (.iconst 1, 1) := by decide +kernel
theorem dL_step_109 : decode cL_step 109 = .ok (.goto 4, 3) := by decide +kernel
theorem dL_step_112 : decode cL_step 112 = .ok (.iconst 0, 1) := by decide +kernel
theorem dL_step_113 : decode cL_step 113 = .ok (.ireturn, 1) := by decide +kernel
theorem dL_step_114 : decode cL_step 114 = .ok (.iload_n 1, 1) := by decide +kernel
theorem dL_step_115 : decode cL_step 115 = .ok (.iconst 3, 1) := by decide +kernel
theorem dL_step_116 : decode cL_step 116 = .ok (.if_icmp .ge 35, 3) := by decide +kernel
theorem dL_step_119 : decode cL_step 119 = .ok (.aload_n 0, 1) := by decide +kernel
theorem dL_step_120 : decode cL_step 120 = .ok (.iload 8, 2) := by decide +kernel
theorem dL_step_122 : decode cL_step 122 = .ok (.iload_n 3, 1) := by decide +kernel
theorem dL_step_123 : decode cL_step 123 = .ok (.iconst 4, 1) := by decide +kernel
theorem dL_step_124 : decode cL_step 124 = .ok (.irem, 1) := by decide +kernel
theorem dL_step_125 : decode cL_step 125 = .ok (.ifCond .ne 7, 3) := by decide +kernel
theorem dL_step_128 : decode cL_step 128 = .ok (.iconst 0, 1) := by decide +kernel
theorem dL_step_129 : decode cL_step 129 = .ok (.goto 10, 3) := by decide +kernel
theorem dL_step_132 : decode cL_step 132 = .ok (.iconst 1, 1) := by decide +kernel
theorem dL_step_133 : decode cL_step 133 = .ok (.iload_n 3, 1) := by decide +kernel
theorem dL_step_134 : decode cL_step 134 = .ok (.iconst 4, 1) := by decide +kernel
theorem dL_step_135 : decode cL_step 135 = .ok (.idiv, 1) := by decide +kernel
theorem dL_step_136 : decode cL_step 136 = .ok (.iconst 5, 1) := by decide +kernel
theorem dL_step_137 : decode cL_step 137 = .ok (.irem, 1) := by decide +kernel
theorem dL_step_138 : decode cL_step 138 = .ok (.iadd, 1) := by decide +kernel
theorem dL_step_139 : decode cL_step 139 = .ok (.aload 4, 2) := by decide +kernel
theorem dL_step_141 : decode cL_step 141 = .ok (.aload 5, 2) := by decide +kernel
theorem dL_step_143 : decode cL_step 143 = .ok (.aload 6, 2) := by decide +kernel
theorem dL_step_145 : decode cL_step 145 = .ok (.aload 7, 2) := by decide +kernel
theorem dL_step_147 : decode cL_step 147 = .ok (.invokestatic 100, 3) := by decide +kernel
theorem dL_step_150 : decode cL_step 150 = .ok (.ireturn, 1) := by decide +kernel
theorem dL_step_151 : decode cL_step 151 = .ok (.iload_n 1, 1) := by decide +kernel
theorem dL_step_152 : decode cL_step 152 = .ok (.iconst 3, 1) := by decide +kernel
theorem dL_step_153 : decode cL_step 153 = .ok (.if_icmp .ne 29, 3) := by decide +kernel
theorem dL_step_156 : decode cL_step 156 = .ok (.iload_n 3, 1) := by decide +kernel
theorem dL_step_157 : decode cL_step 157 = .ok (.iconst 3, 1) := by decide +kernel
theorem dL_step_158 : decode cL_step 158 = .ok (.irem, 1) := by decide +kernel
theorem dL_step_159 : decode cL_step 159 = .ok (.ifCond .gt 17, 3) := by decide +kernel
theorem dL_step_162 : decode cL_step 162 = .ok (.aload_n 0, 1) := by decide +kernel
theorem dL_step_163 : decode cL_step 163 = .ok (.iload_n 2, 1) := by decide +kernel
theorem dL_step_164 : decode cL_step 164 = .ok (.aload 4, 2) := by decide +kernel
theorem dL_step_166 : decode cL_step 166 = .ok (.aload 5, 2) := by decide +kernel
theorem dL_step_168 : decode cL_step 168 = .ok (.aload 6, 2) := by decide +kernel
theorem dL_step_170 : decode cL_step 170 = .ok (.invokestatic 104, 3) := by decide +kernel
theorem dL_step_173 : decode cL_step 173 = .ok (.ifCond .eq 7, 3) := by decide +kernel
theorem dL_step_176 : decode cL_step 176 = .ok (.iconst 1, 1) := by decide +kernel
theorem dL_step_177 : decode cL_step 177 = .ok (.goto 4, 3) := by decide +kernel
theorem dL_step_180 : decode cL_step 180 = .ok (.iconst 0, 1) := by decide +kernel
theorem dL_step_181 : decode cL_step 181 = .ok (.ireturn, 1) := by decide +kernel
theorem dL_step_182 : decode cL_step 182 = .ok (.iload_n 1, 1) := by decide +kernel
theorem dL_step_183 : decode cL_step 183 = .ok (.bipush 8, 2) := by decide +kernel
theorem dL_step_185 : decode cL_step 185 = .ok (.if_icmp .ge 94, 3) := by decide +kernel
theorem dL_step_188 : decode cL_step 188 = .ok (.iload_n 3, 1) := by decide +kernel
theorem dL_step_189 : decode cL_step 189 = .ok (.iconst 3, 1) := by decide +kernel
theorem dL_step_190 : decode cL_step 190 = .ok (.irem, 1) := by decide +kernel
theorem dL_step_191 : decode cL_step 191 = .ok (.ifCond .ne 14, 3) := by decide +kernel
theorem dL_step_194 : decode cL_step 194 = .ok (.iconst 1, 1) := by decide +kernel
theorem dL_step_195 : decode cL_step 195 = .ok (.iload_n 3, 1) := by decide +kernel
theorem dL_step_196 : decode cL_step 196 = .ok (.iconst 3, 1) := by decide +kernel
theorem dL_step_197 : decode cL_step 197 = .ok (.idiv, 1) := by decide +kernel
theorem dL_step_198 : decode cL_step 198 = .ok (.bipush 9, 2) := by decide +kernel
theorem dL_step_200 : decode cL_step 200 = .ok (.irem, 1) := by decide +kernel
theorem dL_step_201 : decode cL_step 201 = .ok (.iadd, 1) := by decide +kernel
theorem dL_step_202 : decode cL_step 202 = .ok (.goto 10, 3) := by decide +kernel
theorem dL_step_205 : decode cL_step 205 = .ok (.iconst 1, 1) := by decide +kernel
theorem dL_step_206 : decode cL_step 206 = .ok (.iload_n 3, 1) := by decide +kernel
theorem dL_step_207 : decode cL_step 207 = .ok (.iconst 3, 1) := by decide +kernel
theorem dL_step_208 : decode cL_step 208 = .ok (.idiv, 1) := by decide +kernel
theorem dL_step_209 : decode cL_step 209 = .ok (.iconst 4, 1) := by decide +kernel
theorem dL_step_210 : decode cL_step 210 = .ok (.irem, 1) := by decide +kernel
theorem dL_step_211 : decode cL_step 211 = .ok (.iadd, 1) := by decide +kernel
theorem dL_step_212 : decode cL_step 212 = .ok (.istore 9, 2) := by decide +kernel
theorem dL_step_214 : decode cL_step 214 = .ok (.aload_n 0, 1) := by decide +kernel
theorem dL_step_215 : decode cL_step 215 = .ok (.iload 8, 2) := by decide +kernel
theorem dL_step_217 : decode cL_step 217 = .ok (.iload 9, 2) := by decide +kernel
theorem dL_step_219 : decode cL_step 219 = .ok (.invokevirtual 61, 3) := by decide +kernel
theorem dL_step_222 : decode cL_step 222 = .ok (.istore 10, 2) := by decide +kernel
theorem dL_step_224 : decode cL_step 224 = .ok (.aload_n 0, 1) := by decide +kernel
theorem dL_step_225 : decode cL_step 225 = .ok (.iload 8, 2) := by decide +kernel
theorem dL_step_227 : decode cL_step 227 = .ok (.iload 9, 2) := by decide +kernel
theorem dL_step_229 : decode cL_step 229 = .ok (.invokestatic 108, 3) := by decide +kernel
theorem dL_step_232 : decode cL_step 232 = .ok (.istore 11, 2) := by decide +kernel
theorem dL_step_234 : decode cL_step 234 = .ok (.iload 10, 2) := by decide +kernel
theorem dL_step_236 : decode cL_step 236 = .ok (.ifCond .eq 16, 3) := by decide +kernel
theorem dL_step_239 : decode cL_step 239 = .ok (.aload 4, 2) := by decide +kernel
theorem dL_step_241 : decode cL_step 241 = .ok (.aload 6, 2) := by decide +kernel
theorem dL_step_243 : decode cL_step 243 = .ok (.aload 7, 2) := by decide +kernel
theorem dL_step_245 : decode cL_step 245 = .ok (.iload 8, 2) := by decide +kernel
theorem dL_step_247 : decode cL_step 247 = .ok (.iload 9, 2) := by decide +kernel
theorem dL_step_249 : decode cL_step 249 = .ok (.invokestatic 90, 3) := by decide +kernel
theorem dL_step_252 : decode cL_step 252 = .ok (.iload 11, 2) := by decide +kernel
theorem dL_step_254 : decode cL_step 254 = .ok (.iload 10, 2) := by decide +kernel
theorem dL_step_256 : decode cL_step 256 = .ok (.ifCond .eq 12, 3) := by decide +kernel
theorem dL_step_259 : decode cL_step 259 = .ok (.aload_n 0, 1) := by decide +kernel
theorem dL_step_260 : decode cL_step 260 = .ok (.iload 8, 2) := by decide +kernel
theorem dL_step_262 : decode cL_step 262 = .ok (.invokevirtual 48, 3) := by decide +kernel
theorem dL_step_265 : decode cL_step 265 = .ok (.goto 5, 3) := by decide +kernel
theorem dL_step_268 : decode cL_step 268 = .ok (.bipush (-8), 2) := by decide +kernel
theorem dL_step_270 : decode cL_step 270 = .ok (.if_icmp .ne 7, 3) := by decide +kernel
theorem dL_step_273 : decode cL_step 273 = .ok (.iconst 1, 1) := by decide +kernel
theorem dL_step_274 : decode cL_step 274 = .ok (.goto 4, 3) := by decide +kernel
theorem dL_step_277 : decode cL_step 277 = .ok (.iconst 0, 1) := by decide +kernel
theorem dL_step_278 : decode cL_step 278 = .ok (.ireturn, 1) := by decide +kernel
theorem dL_step_279 : decode cL_step 279 = .ok (.iload_n 1, 1) := by decide +kernel
theorem dL_step_280 : decode cL_step 280 = .ok (.bipush 10, 2) := by decide +kernel
theorem dL_step_282 : decode cL_step 282 = .ok (.if_icmp .ge 51, 3) := by decide +kernel
theorem dL_step_285 : decode cL_step 285 = .ok (.aload 6, 2) := by decide +kernel
theorem dL_step_287 : decode cL_step 287 = .ok (.iconst 2, 1) := by decide +kernel
theorem dL_step_288 : decode cL_step 288 = .ok (.iaload, 1) := by decide +kernel
theorem dL_step_289 : decode cL_step 289 = .ok (.ifCond .ne 5, 3) := by decide +kernel
theorem dL_step_292 : decode cL_step 292 = .ok (.iconst 1, 1) := by decide +kernel
theorem dL_step_293 : decode cL_step 293 = .ok (.ireturn, 1) := by decide +kernel
theorem dL_step_294 : decode cL_step 294 = .ok (.aload 6, 2) := by decide +kernel
theorem dL_step_296 : decode cL_step 296 = .ok (.iconst 2, 1) := by decide +kernel
theorem dL_step_297 : decode cL_step 297 = .ok (.dup2, 1) := by decide +kernel
theorem dL_step_298 : decode cL_step 298 = .ok (.iaload, 1) := by decide +kernel
theorem dL_step_299 : decode cL_step 299 = .ok (.iconst 1, 1) := by decide +kernel
theorem dL_step_300 : decode cL_step 300 = .ok (.isub, 1) := by decide +kernel
theorem dL_step_301 : decode cL_step 301 = .ok (.iastore, 1) := by decide +kernel
theorem dL_step_302 : decode cL_step 302 = .ok (.aload 4, 2) := by decide +kernel
theorem dL_step_304 : decode cL_step 304 = .ok (.aload 7, 2) := by decide +kernel
theorem dL_step_306 : decode cL_step 306 = .ok (.aload 6, 2) := by decide +kernel
theorem dL_step_308 : decode cL_step 308 = .ok (.iconst 2, 1) := by decide +kernel
theorem dL_step_309 : decode cL_step 309 = .ok (.iaload, 1) := by decide +kernel
theorem dL_step_310 : decode cL_step 310 = .ok (.iaload, 1) := by decide +kernel
theorem dL_step_311 : decode cL_step 311 = .ok (.iconst 0, 1) := by decide +kernel
theorem dL_step_312 : decode cL_step 312 = .ok (.iastore, 1) := by decide +kernel
theorem dL_step_313 : decode cL_step 313 = .ok (.aload_n 0, 1) := by decide +kernel
theorem dL_step_314 : decode cL_step 314 = .ok (.invokevirtual 111, 3) := by decide +kernel
theorem dL_step_317 : decode cL_step 317 = .ok (.aload 7, 2) := by decide +kernel
theorem dL_step_319 : decode cL_step 319 = .ok (.aload 6, 2) := by decide +kernel
theorem dL_step_321 : decode cL_step 321 = .ok (.iconst 2, 1) := by decide +kernel
theorem dL_step_322 : decode cL_step 322 = .ok (.iaload, 1) := by decide +kernel
theorem dL_step_323 : decode cL_step 323 = .ok (.iaload, 1) := by decide +kernel
theorem dL_step_324 : decode cL_step 324 = .ok (.if_icmp .ne 7, 3) := by decide +kernel
theorem dL_step_327 : decode cL_step 327 = .ok (.iconst 1, 1) := by decide +kernel
theorem dL_step_328 : decode cL_step 328 = .ok (.goto 4, 3) := by decide +kernel
theorem dL_step_331 : decode cL_step 331 = .ok (.iconst 0, 1) := by decide +kernel
theorem dL_step_332 : decode cL_step 332 = .ok (.ireturn, 1) := by decide +kernel
theorem dL_step_333 : decode cL_step 333 = .ok (.aload_n 0, 1) := by decide +kernel
theorem dL_step_334 : decode cL_step 334 = .ok (.iload_n 1, 1) := by decide +kernel
theorem dL_step_335 : decode cL_step 335 = .ok (.iconst 3, 1) := by decide +kernel
theorem dL_step_336 : decode cL_step 336 = .ok (.irem, 1) := by decide +kernel
theorem dL_step_337 : decode cL_step 337 = .ok (.aload 4, 2) := by decide +kernel
theorem dL_step_339 : decode cL_step 339 = .ok (.aload 6, 2) := by decide +kernel
theorem dL_step_341 : decode cL_step 341 = .ok (.aload 7, 2) := by decide +kernel
theorem dL_step_343 : decode cL_step 343 = .ok (.invokestatic 114, 3) := by decide +kernel
theorem dL_step_346 : decode cL_step 346 = .ok (.ireturn, 1) := by decide +kernel
set_option maxRecDepth 20000 in
theorem ggL_workshop_X4_init : GoodIn wsL_workshop wsX4_init := goodIn_r _ [8, 9, 10, 11, 12, 13, 14, 15, 16, 4, 17, 18, 19, 20, 21, 22, 23, 24, 25, 26, 27, 28, 29, 30, 31, 32, 33, 34, 35, 36, 37, 38, 39, 40, 41, 42, 43, 44, 45, 46, 47, 48, 49, 50, 51, 52, 53, 54, 55, 356, 357, 358, 359, 360, 350, 351, 352, 353, 354, 355, 361, 362, 363, 364] (by decide +kernel) (by decide +kernel)
set_option maxRecDepth 20000 in
theorem gL_workshop_X4_init : GoodIn wsL_workshop (wsX4_init) := ggL_workshop_X4_init
set_option maxRecDepth 20000 in
theorem ggL_workshop_L_draw : GoodIn wsL_workshop wsL_draw := goodIn_r _ [59, 60, 61, 62] (by decide +kernel) (by decide +kernel)
set_option maxRecDepth 20000 in
theorem gL_workshop_L_draw : GoodIn wsL_workshop (va_wsS RL 119 yL_draw wsL_draw) := goodIn_app (goodIn_of _ (by decide +kernel)) ggL_workshop_L_draw
