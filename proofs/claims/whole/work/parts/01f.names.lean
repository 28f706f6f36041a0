theorem dX5_clue_0 : decode cX5_clue 0 = .ok (.iload_n 2, 1) := by decide +kernel
theorem dX5_clue_1 : decode cX5_clue 1 = .ok (.iconst 0, 1) := by decide +kernel
theorem dX5_clue_2 : decode cX5_clue 2 = .ok (.bipush 9, 2) := by decide +kernel
theorem dX5_clue_4 : decode cX5_clue 4 = .ok (.invokestatic 45, 3) := by decide +kernel
theorem dX5_clue_7 : decode cX5_clue 7 = .ok (.istore_n 3, 1) := by decide +kernel
theorem dX5_clue_8 : decode cX5_clue 8 = .ok (.aload_n 0, 1) := by decide +kernel
theorem dX5_clue_9 : decode cX5_clue 9 = .ok (.aload_n 0, 1) := by decide +kernel
theorem dX5_clue_10 : decode cX5_clue 10 = .ok (.iload_n 1, 1) := by decide +kernel
theorem dX5_clue_11 : decode cX5_clue 11 = .ok (.invokevirtual 87, 3) := by decide +kernel
theorem dX5_clue_14 : decode cX5_clue 14 = .ok (.ifCond .ne 7, 3) := by decide +kernel
theorem dX5_clue_17 : decode cX5_clue 17 = .ok (.iconst 1, 1) := by decide +kernel
theorem dX5_clue_18 : decode cX5_clue 18 = .ok (.goto 25, 3) := by decide +kernel
theorem dX5_clue_21 : decode cX5_clue 21 = .ok (.iload_n 3, 1) := by decide +kernel
theorem dX5_clue_22 : decode cX5_clue 22 = .ok (.ifCond .ne 7, 3) := by decide +kernel
theorem dX5_clue_25 : decode cX5_clue 25 = .ok (.iconst 2, 1) := by decide +kernel
theorem dX5_clue_26 : decode cX5_clue 26 = .ok (.goto 17, 3) := by decide +kernel
theorem dX5_clue_29 : decode cX5_clue 29 = .ok (.aload_n 0, 1) := by decide +kernel
theorem dX5_clue_30 : decode cX5_clue 30 = .ok (.iload_n 1, 1) := by decide +kernel
theorem dX5_clue_31 : decode cX5_clue 31 = .ok (.iload_n 2, 1) := by decide +kernel
theorem dX5_clue_32 : decode cX5_clue 32 = .ok (.invokevirtual 90, 3) := by decide +kernel
theorem dX5_clue_35 : decode cX5_clue 35 = .ok (.ifCond .eq 7, 3) := by decide +kernel
theorem dX5_clue_38 : decode cX5_clue 38 = .ok (.iconst 0, 1) := by decide +kernel
theorem dX5_clue_39 : decode cX5_clue 39 = .ok (.goto 4, 3) := by decide +kernel
theorem dX5_clue_42 : decode cX5_clue 42 = .ok (.iconst 3, 1) := by decide +kernel
theorem dX5_clue_43 : decode cX5_clue 43 = .ok (.invokevirtual 76, 3) := by decide +kernel
theorem dX5_clue_46 : decode cX5_clue 46 = .ok (.ifCond .ne 5, 3) := by decide +kernel
theorem dX5_clue_49 : decode cX5_clue 49 = .ok (.iconst 0, 1) := by decide +kernel
theorem dX5_clue_50 : decode cX5_clue 50 = .ok (.ireturn, 1) := by decide +kernel
theorem dX5_clue_51 : decode cX5_clue 51 = .ok (.aload_n 0, 1) := by decide +kernel
theorem dX5_clue_52 : decode cX5_clue 52 = .ok (.invokevirtual 93, 3) := by decide +kernel
theorem dX5_clue_55 : decode cX5_clue 55 = .ok (.aload_n 0, 1) := by decide +kernel
theorem dX5_clue_56 : decode cX5_clue 56 = .ok (.getfield 80, 3) := by decide +kernel
theorem dX5_clue_59 : decode cX5_clue 59 = .ok (.iload_n 1, 1) := by decide +kernel
theorem dX5_clue_60 : decode cX5_clue 60 = .ok (.invokestatic 83, 3) := by decide +kernel
theorem dX5_clue_63 : decode cX5_clue 63 = .ok (.ifCond .eq 12, 3) := by decide +kernel
theorem dX5_clue_66 : decode cX5_clue 66 = .ok (.aload_n 0, 1) := by decide +kernel
theorem dX5_clue_67 : decode cX5_clue 67 = .ok (.getfield 16, 3) := by decide +kernel
theorem dX5_clue_70 : decode cX5_clue 70 = .ok (.iload_n 1, 1) := by decide +kernel
theorem dX5_clue_71 : decode cX5_clue 71 = .ok (.iaload, 1) := by decide +kernel
theorem dX5_clue_72 : decode cX5_clue 72 = .ok (.goto 4, 3) := by decide +kernel
theorem dX5_clue_75 : decode cX5_clue 75 = .ok (.iconst 0, 1) := by decide +kernel
theorem dX5_clue_76 : decode cX5_clue 76 = .ok (.istore 4, 2) := by decide +kernel
theorem dX5_clue_78 : decode cX5_clue 78 = .ok (.aload_n 0, 1) := by decide +kernel
theorem dX5_clue_79 : decode cX5_clue 79 = .ok (.getfield 16, 3) := by decide +kernel
theorem dX5_clue_82 : decode cX5_clue 82 = .ok (.iload_n 1, 1) := by decide +kernel
theorem dX5_clue_83 : decode cX5_clue 83 = .ok (.iload_n 2, 1) := by decide +kernel
theorem dX5_clue_84 : decode cX5_clue 84 = .ok (.iastore, 1) := by decide +kernel
theorem dX5_clue_85 : decode cX5_clue 85 = .ok (.aload_n 0, 1) := by decide +kernel
theorem dX5_clue_86 : decode cX5_clue 86 = .ok (.iload_n 2, 1) := by decide +kernel
theorem dX5_clue_87 : decode cX5_clue 87 = .ok (.ifCond .le 14, 3) := by decide +kernel
theorem dX5_clue_90 : decode cX5_clue 90 = .ok (.aload_n 0, 1) := by decide +kernel
theorem dX5_clue_91 : decode cX5_clue 91 = .ok (.getfield 80, 3) := by decide +kernel
theorem dX5_clue_94 : decode cX5_clue 94 = .ok (.iconst 1, 1) := by decide +kernel
theorem dX5_clue_95 : decode cX5_clue 95 = .ok (.iload_n 1, 1) := by decide +kernel
theorem dX5_clue_96 : decode cX5_clue 96 = .ok (.ishl, 1) := by decide +kernel
theorem dX5_clue_97 : decode cX5_clue 97 = .ok (.ior, 1) := by decide +kernel
theorem dX5_clue_98 : decode cX5_clue 98 = .ok (.goto 13, 3) := by decide +kernel
theorem dX5_clue_101 : decode cX5_clue 101 = .ok (.aload_n 0, 1) := by decide +kernel
theorem dX5_clue_102 : decode cX5_clue 102 = .ok (.getfield 80, 3) := by decide +kernel
theorem dX5_clue_105 : decode cX5_clue 105 = .ok (.iconst 1, 1) := by decide +kernel
theorem dX5_clue_106 : decode cX5_clue 106 = .ok (.iload_n 1, 1) := by decide +kernel
theorem dX5_clue_107 : decode cX5_clue 107 = .ok (.ishl, 1) := by decide +kernel
theorem dX5_clue_108 : decode cX5_clue 108 = .ok (.iconst (-1), 1) := by decide +kernel
theorem dX5_clue_109 : decode cX5_clue 109 = .ok (.ixor, 1) := by decide +kernel
theorem dX5_clue_110 : decode cX5_clue 110 = .ok (.iand, 1) := by decide +kernel
theorem dX5_clue_111 : decode cX5_clue 111 = .ok (.putfield 80, 3) := by decide +kernel
theorem dX5_clue_114 : decode cX5_clue 114 = .ok (.iload 4, 2) := by decide +kernel
theorem dX5_clue_116 : decode cX5_clue 116 = .ok (.ireturn, 1) := by decide +kernel
theorem dX5_back_0 : decode cX5_back 0 = .ok (.iload_n 1, 1) := by decide +kernel
theorem dX5_back_1 : decode cX5_back 1 = .ok (.ifCond .le 17, 3) := by decide +kernel
theorem dX5_back_4 : decode cX5_back 4 = .ok (.aload_n 0, 1) := by decide +kernel
theorem dX5_back_5 : decode cX5_back 5 = .ok (.getfield 16, 3) := by decide +kernel
theorem dX5_back_8 : decode cX5_back 8 = .ok (.aload_n 0, 1) := by decide +kernel
theorem dX5_back_9 : decode cX5_back 9 = .ok (.getfield 26, 3) := by decide +kernel
theorem dX5_back_12 : decode cX5_back 12 = .ok (.iload_n 1, 1) := by decide +kernel
theorem dX5_back_13 : decode cX5_back 13 = .ok (.iconst 1, 1) := by decide +kernel
theorem dX5_back_14 : decode cX5_back 14 = .ok (.isub, 1) := by decide +kernel
theorem dX5_back_15 : decode cX5_back 15 = .ok (.iaload, 1) := by decide +kernel
theorem dX5_back_16 : decode cX5_back 16 = .ok (.iconst 0, 1) := by decide +kernel
theorem dX5_back_17 : decode cX5_back 17 = .ok (.iastore, 1) := by decide +kernel
theorem dX5_back_18 : decode cX5_back 18 = .ok (.iload_n 1, 1) := by decide +kernel
theorem dX5_back_19 : decode cX5_back 19 = .ok (.iconst 1, 1) := by decide +kernel
theorem dX5_back_20 : decode cX5_back 20 = .ok (.isub, 1) := by decide +kernel
theorem dX5_back_21 : decode cX5_back 21 = .ok (.ireturn, 1) := by decide +kernel
set_option maxRecDepth 20000 in
theorem ggX5_searches_X5_cells : GoodIn wsX5_searches wsX5_cells := goodIn_r _ [9, 10, 11, 52, 53, 54, 55, 56, 57, 58, 59, 60, 61, 62, 63, 64] (by decide +kernel) (by decide +kernel)
set_option maxRecDepth 20000 in
theorem gX5_searches_X5_cells : GoodIn wsX5_searches (wsV RX5 41 RX5 yX5_cells wsX5_cells) := goodIn_app (goodIn_of _ (by decide +kernel)) ggX5_searches_X5_cells
set_option maxRecDepth 20000 in
theorem ggX5_searches_X5_clears : GoodIn wsX5_searches wsX5_clears := goodIn_r _ [15, 1, 2, 52, 53, 54, 55, 56, 57, 58, 59, 60, 61, 62, 63, 64] (by decide +kernel) (by decide +kernel)
set_option maxRecDepth 20000 in
theorem gX5_searches_X5_clears : GoodIn wsX5_searches (wsV RX5 96 RX5 yX5_clears wsX5_clears) := goodIn_app (goodIn_of _ (by decide +kernel)) ggX5_searches_X5_clears
set_option maxRecDepth 20000 in
theorem ggX5_searches_X5_back : GoodIn wsX5_searches wsX5_back := goodIn_r _ [19, 1, 2, 52, 53, 54, 55, 56, 57, 58, 59, 60, 61, 62, 63, 64] (by decide +kernel) (by decide +kernel)
set_option maxRecDepth 20000 in
theorem gX5_searches_X5_back : GoodIn wsX5_searches (wsV RX5 99 RX5 yX5_back wsX5_back) := goodIn_app (goodIn_of _ (by decide +kernel)) ggX5_searches_X5_back
set_option maxRecDepth 20000 in
theorem ggX5_searches_X5_fits : GoodIn wsX5_searches wsX5_fits := goodIn_r _ [23, 1, 24, 25, 26, 8, 27, 28, 29, 30, 31, 32, 5, 6, 7, 9, 10, 11, 33, 34, 35, 36, 37, 38, 39, 40, 41, 42, 43, 44, 45, 46, 47, 48, 49, 50, 51, 52, 53, 54, 55, 56, 57, 58, 59, 60, 61, 62, 63, 64] (by decide +kernel) (by decide +kernel)
set_option maxRecDepth 20000 in
theorem gX5_searches_X5_fits : GoodIn wsX5_searches (wsV RX5 102 RX5 yX5_fits wsX5_fits) := goodIn_app (goodIn_of _ (by decide +kernel)) ggX5_searches_X5_fits
theorem dX5_searches_0 : decode cX5_searches 0 = .ok (.iconst 0, 1) := by decide +kernel
theorem dX5_searches_1 : decode cX5_searches 1 = .ok (.istore_n 3, 1) := by decide +kernel
theorem dX5_searches_2 : decode cX5_searches 2 = .ok (.iconst 0, 1) := by decide +kernel
theorem dX5_searches_3 : decode cX5_searches 3 = .ok (.istore 4, 2) := by decide +kernel
theorem dX5_searches_5 : decode cX5_searches 5 = .ok (.iload 4, 2) := by decide +kernel
theorem dX5_searches_7 : decode cX5_searches 7 = .ok (.aload_n 0, 1) := by decide +kernel
theorem dX5_searches_8 : decode cX5_searches 8 = .ok (.invokevirtual 41, 3) := by decide +kernel
theorem dX5_searches_11 : decode cX5_searches 11 = .ok (.if_icmp .ge 37, 3) := by decide +kernel
theorem dX5_searches_14 : decode cX5_searches 14 = .ok (.aload_n 0, 1) := by decide +kernel
theorem dX5_searches_15 : decode cX5_searches 15 = .ok (.getfield 16, 3) := by decide +kernel
theorem dX5_searches_18 : decode cX5_searches 18 = .ok (.iload 4, 2) := by decide +kernel
theorem dX5_searches_20 : decode cX5_searches 20 = .ok (.iaload, 1) := by decide +kernel
theorem dX5_searches_21 : decode cX5_searches 21 = .ok (.ifCond .ne 21, 3) := by decide +kernel
theorem dX5_searches_24 : decode cX5_searches 24 = .ok (.aload_n 0, 1) := by decide +kernel
theorem dX5_searches_25 : decode cX5_searches 25 = .ok (.getfield 26, 3) := by decide +kernel
theorem dX5_searches_28 : decode cX5_searches 28 = .ok (.iload_n 3, 1) := by decide +kernel
theorem dX5_searches_29 : decode cX5_searches 29 = .ok (.iload 4, 2) := by decide +kernel
theorem dX5_searches_31 : decode cX5_searches 31 = .ok (.iastore, 1) := by decide +kernel
theorem dX5_searches_32 : decode cX5_searches 32 = .ok (.aload_n 0, 1) := by decide +kernel
theorem dX5_searches_33 : decode cX5_searches 33 = .ok (.getfield 32, 3) := by decide +kernel
theorem dX5_searches_36 : decode cX5_searches 36 = .ok (.iload_n 3, 1) := by decide +kernel
theorem dX5_searches_37 : decode cX5_searches 37 = .ok (.iconst 0, 1) := by decide +kernel
theorem dX5_searches_38 : decode cX5_searches 38 = .ok (.iastore, 1) := by decide +kernel
theorem dX5_searches_39 : decode cX5_searches 39 = .ok (.iinc 3 1, 3) := by decide +kernel
theorem dX5_searches_42 : decode cX5_searches 42 = .ok (.iinc 4 1, 3) := by decide +kernel
theorem dX5_searches_45 : decode cX5_searches 45 = .ok (.goto (-40), 3) := by decide +kernel
theorem dX5_searches_48 : decode cX5_searches 48 = .ok (.iconst 0, 1) := by decide +kernel
theorem dX5_searches_49 : decode cX5_searches 49 = .ok (.istore 4, 2) := by decide +kernel
theorem dX5_searches_51 : decode cX5_searches 51 = .ok (.iconst 0, 1) := by decide +kernel
theorem dX5_searches_52 : decode cX5_searches 52 = .ok (.istore 5, 2) := by decide +kernel
theorem dX5_searches_54 : decode cX5_searches 54 = .ok (.iload 5, 2) := by decide +kernel
theorem dX5_searches_56 : decode cX5_searches 56 = .ok (.ifCond .lt 155, 3) := by decide +kernel
theorem dX5_searches_59 : decode cX5_searches 59 = .ok (.iload 5, 2) := by decide +kernel
theorem dX5_searches_61 : decode cX5_searches 61 = .ok (.iload_n 3, 1) := by decide +kernel
theorem dX5_searches_62 : decode cX5_searches 62 = .ok (.if_icmp .ne 44, 3) := by decide +kernel
theorem dX5_searches_65 : decode cX5_searches 65 = .ok (.iinc 4 1, 3) := by decide +kernel
theorem dX5_searches_68 : decode cX5_searches 68 = .ok (.iload 4, 2) := by decide +kernel
theorem dX5_searches_70 : decode cX5_searches 70 = .ok (.iload_n 1, 1) := by decide +kernel
theorem dX5_searches_71 : decode cX5_searches 71 = .ok (.if_icmp .ne 10, 3) := by decide +kernel
theorem dX5_searches_74 : decode cX5_searches 74 = .ok (.iload_n 2, 1) := by decide +kernel
theorem dX5_searches_75 : decode cX5_searches 75 = .ok (.ifCond .eq 6, 3) := by decide +kernel
theorem dX5_searches_78 : decode cX5_searches 78 = .ok (.iload 4, 2) := by decide +kernel
theorem dX5_searches_80 : decode cX5_searches 80 = .ok (.ireturn, 1) := by decide +kernel
theorem dX5_searches_81 : decode cX5_searches 81 = .ok (.iload 4, 2) := by decide +kernel
theorem dX5_searches_83 : decode cX5_searches 83 = .ok (.iload_n 1, 1) := by decide +kernel
theorem dX5_searches_84 : decode cX5_searches 84 = .ok (.if_icmp .ne 11, 3) := by decide +kernel
theorem dX5_searches_87 : decode cX5_searches 87 = .ok (.aload_n 0, 1) := by decide +kernel
theorem dX5_searches_88 : decode cX5_searches 88 = .ok (.iload_n 3, 1) := by decide +kernel
theorem dX5_searches_89 : decode cX5_searches 89 = .ok (.invokevirtual 96, 3) := by decide +kernel
theorem dX5_searches_92 : decode cX5_searches 92 = .ok (.goto 9, 3) := by decide +kernel
theorem dX5_searches_95 : decode cX5_searches 95 = .ok (.aload_n 0, 1) := by decide +kernel
theorem dX5_searches_96 : decode cX5_searches 96 = .ok (.iload 5, 2) := by decide +kernel
theorem dX5_searches_98 : decode cX5_searches 98 = .ok (.invokevirtual 99, 3) := by decide +kernel
theorem dX5_searches_101 : decode cX5_searches 101 = .ok (.istore 5, 2) := by decide +kernel
theorem dX5_searches_103 : decode cX5_searches 103 = .ok (.goto (-49), 3) := by decide +kernel
theorem dX5_searches_106 : decode cX5_searches 106 = .ok (.aload_n 0, 1) := by decide +kernel
theorem dX5_searches_107 : decode cX5_searches 107 = .ok (.getfield 32, 3) := by decide +kernel
theorem dX5_searches_110 : decode cX5_searches 110 = .ok (.iload 5, 2) := by decide +kernel
theorem dX5_searches_112 : decode cX5_searches 112 = .ok (.iaload, 1) := by decide +kernel
theorem dX5_searches_113 : decode cX5_searches 113 = .ok (.bipush 9, 2) := by decide +kernel
theorem dX5_searches_115 : decode cX5_searches 115 = .ok (.if_icmp .ne 22, 3) := by decide +kernel
theorem dX5_searches_118 : decode cX5_searches 118 = .ok (.aload_n 0, 1) := by decide +kernel
theorem dX5_searches_119 : decode cX5_searches 119 = .ok (.getfield 32, 3) := by decide +kernel
theorem dX5_searches_122 : decode cX5_searches 122 = .ok (.iload 5, 2) := by decide +kernel
theorem dX5_searches_124 : decode cX5_searches 124 = .ok (.iconst 0, 1) := by decide +kernel
theorem dX5_searches_125 : decode cX5_searches 125 = .ok (.iastore, 1) := by decide +kernel
theorem dX5_searches_126 : decode cX5_searches 126 = .ok (.aload_n 0, 1) := by decide +kernel
theorem dX5_searches_127 : decode cX5_searches 127 = .ok (.iload 5, 2) := by decide +kernel
theorem dX5_searches_129 : decode cX5_searches 129 = .ok (.invokevirtual 99, 3) := by decide +kernel
theorem dX5_searches_132 : decode cX5_searches 132 = .ok (.istore 5, 2) := by decide +kernel
theorem dX5_searches_134 : decode cX5_searches 134 = .ok (.goto (-80), 3) := by decide +kernel
theorem dX5_searches_137 : decode cX5_searches 137 = .ok (.aload_n 0, 1) := by decide +kernel
theorem dX5_searches_138 : decode cX5_searches 138 = .ok (.getfield 29, 3) := by decide +kernel
theorem dX5_searches_141 : decode cX5_searches 141 = .ok (.aload_n 0, 1) := by decide +kernel
theorem dX5_searches_142 : decode cX5_searches 142 = .ok (.getfield 26, 3) := by decide +kernel
theorem dX5_searches_145 : decode cX5_searches 145 = .ok (.iload 5, 2) := by decide +kernel
theorem dX5_searches_147 : decode cX5_searches 147 = .ok (.iaload, 1) := by decide +kernel
theorem dX5_searches_148 : decode cX5_searches 148 = .ok (.iaload, 1) := by decide +kernel
theorem dX5_searches_149 : decode cX5_searches 149 = .ok (.aload_n 0, 1) := by decide +kernel
theorem dX5_searches_150 : decode cX5_searches 150 = .ok (.getfield 32, 3) := by decide +kernel
theorem dX5_searches_153 : decode cX5_searches 153 = .ok (.iload 5, 2) := by decide +kernel
theorem dX5_searches_155 : decode cX5_searches 155 = .ok (.iaload, 1) := by decide +kernel
theorem dX5_searches_156 : decode cX5_searches 156 = .ok (.iadd, 1) := by decide +kernel
theorem dX5_searches_157 : decode cX5_searches 157 = .ok (.bipush 9, 2) := by decide +kernel
theorem dX5_searches_159 : decode cX5_searches 159 = .ok (.irem, 1) := by decide +kernel
theorem dX5_searches_160 : decode cX5_searches 160 = .ok (.iconst 1, 1) := by decide +kernel
theorem dX5_searches_161 : decode cX5_searches 161 = .ok (.iadd, 1) := by decide +kernel
theorem dX5_searches_162 : decode cX5_searches 162 = .ok (.istore 6, 2) := by decide +kernel
theorem dX5_searches_164 : decode cX5_searches 164 = .ok (.aload_n 0, 1) := by decide +kernel
theorem dX5_searches_165 : decode cX5_searches 165 = .ok (.getfield 32, 3) := by decide +kernel
theorem dX5_searches_168 : decode cX5_searches 168 = .ok (.iload 5, 2) := by decide +kernel
theorem dX5_searches_170 : decode cX5_searches 170 = .ok (.dup2, 1) := by decide +kernel
theorem dX5_searches_171 : decode cX5_searches 171 = .ok (.iaload, 1) := by decide +kernel
theorem dX5_searches_172 : decode cX5_searches 172 = .ok (.iconst 1, 1) := by decide +kernel
theorem dX5_searches_173 : decode cX5_searches 173 = .ok (.iadd, 1) := by decide +kernel
theorem dX5_searches_174 : decode cX5_searches 174 = .ok (.iastore, 1) := by decide +kernel
theorem dX5_searches_175 : decode cX5_searches 175 = .ok (.aload_n 0, 1) := by decide +kernel
theorem dX5_searches_176 : decode cX5_searches 176 = .ok (.aload_n 0, 1) := by decide +kernel
theorem dX5_searches_177 : decode cX5_searches 177 = .ok (.getfield 26, 3) := by decide +kernel
theorem dX5_searches_180 : decode cX5_searches 180 = .ok (.iload 5, 2) := by decide +kernel
theorem dX5_searches_182 : decode cX5_searches 182 = .ok (.iaload, 1) := by decide +kernel
theorem dX5_searches_183 : decode cX5_searches 183 = .ok (.iload 6, 2) := by decide +kernel
theorem dX5_searches_185 : decode cX5_searches 185 = .ok (.invokevirtual 102, 3) := by decide +kernel
theorem dX5_searches_188 : decode cX5_searches 188 = .ok (.ifCond .eq 20, 3) := by decide +kernel
theorem dX5_searches_191 : decode cX5_searches 191 = .ok (.aload_n 0, 1) := by decide +kernel
theorem dX5_searches_192 : decode cX5_searches 192 = .ok (.getfield 16, 3) := by decide +kernel
theorem dX5_searches_195 : decode cX5_searches 195 = .ok (.aload_n 0, 1) := by decide +kernel
theorem dX5_searches_196 : decode cX5_searches 196 = .ok (.getfield 26, 3) := by decide +kernel
theorem dX5_searches_199 : decode cX5_searches 199 = .ok (.iload 5, 2) := by decide +kernel
theorem dX5_searches_201 : decode cX5_searches 201 = .ok (.iaload, 1) := by decide +kernel
theorem dX5_searches_202 : decode cX5_searches 202 = .ok (.iload 6, 2) := by decide +kernel
theorem dX5_searches_204 : decode cX5_searches 204 = .ok (.iastore, 1) := by decide +kernel
theorem dX5_searches_205 : decode cX5_searches 205 = .ok (.iinc 5 1, 3) := by decide +kernel
theorem dX5_searches_208 : decode cX5_searches 208 = .ok (.goto (-154), 3) := by decide +kernel
theorem dX5_searches_211 : decode cX5_searches 211 = .ok (.iload 4, 2) := by decide +kernel
theorem dX5_searches_213 : decode cX5_searches 213 = .ok (.ireturn, 1) := by decide +kernel
theorem dX5_clears_0 : decode cX5_clears 0 = .ok (.iconst 0, 1) := by decide +kernel
theorem dX5_clears_1 : decode cX5_clears 1 = .ok (.istore_n 2, 1) := by decide +kernel
theorem dX5_clears_2 : decode cX5_clears 2 = .ok (.iload_n 2, 1) := by decide +kernel
theorem dX5_clears_3 : decode cX5_clears 3 = .ok (.iload_n 1, 1) := by decide +kernel
theorem dX5_clears_4 : decode cX5_clears 4 = .ok (.if_icmp .ge 21, 3) := by decide +kernel
theorem dX5_clears_7 : decode cX5_clears 7 = .ok (.aload_n 0, 1) := by decide +kernel
theorem dX5_clears_8 : decode cX5_clears 8 = .ok (.getfield 16, 3) := by decide +kernel
theorem dX5_clears_11 : decode cX5_clears 11 = .ok (.aload_n 0, 1) := by decide +kernel
theorem dX5_clears_12 : decode cX5_clears 12 = .ok (.getfield 26, 3) := by decide +kernel
theorem dX5_clears_15 : decode cX5_clears 15 = .ok (.iload_n 2, 1) := by decide +kernel
theorem dX5_clears_16 : decode cX5_clears 16 = .ok (.iaload, 1) := by decide +kernel
theorem dX5_clears_17 : decode cX5_clears 17 = .ok (.iconst 0, 1) := by decide +kernel
theorem dX5_clears_18 : decode cX5_clears 18 = .ok (.iastore, 1) := by decide +kernel
theorem dX5_clears_19 : decode cX5_clears 19 = .ok (.iinc 2 1, 3) := by decide +kernel
theorem dX5_clears_22 : decode cX5_clears 22 = .ok (.goto (-20), 3) := by decide +kernel
theorem dX5_clears_25 : decode cX5_clears 25 = .ok (.iconst (-1), 1) := by decide +kernel
theorem dX5_clears_26 : decode cX5_clears 26 = .ok (.ireturn, 1) := by decide +kernel
theorem dX5_draw_0 : decode cX5_draw 0 = .ok (.aload_n 0, 1) := by decide +kernel
theorem dX5_draw_1 : decode cX5_draw 1 = .ok (.aload_n 0, 1) := by decide +kernel
theorem dX5_draw_2 : decode cX5_draw 2 = .ok (.getfield 105, 3) := by decide +kernel
theorem dX5_draw_5 : decode cX5_draw 5 = .ok (.ldc2_w 109, 3) := by decide +kernel
theorem dX5_draw_8 : decode cX5_draw 8 = .ok (.lmul, 1) := by decide +kernel
theorem dX5_draw_9 : decode cX5_draw 9 = .ok (.ldc2_w 111, 3) := by decide +kernel
theorem dX5_draw_12 : decode cX5_draw 12 = .ok (.ladd, 1) := by decide +kernel
theorem dX5_draw_13 : decode cX5_draw 13 = .ok (.ldc2_w 113, 3) := by decide +kernel
theorem dX5_draw_16 : decode cX5_draw 16 = .ok (.lrem, 1) := by decide +kernel
theorem dX5_draw_17 : decode cX5_draw 17 = .ok (.putfield 105, 3) := by decide +kernel
theorem dX5_draw_20 : decode cX5_draw 20 = .ok (.aload_n 0, 1) := by decide +kernel
theorem dX5_draw_21 : decode cX5_draw 21 = .ok (.getfield 105, 3) := by decide +kernel
theorem dX5_draw_24 : decode cX5_draw 24 = .ok (.ldc2_w 115, 3) := by decide +kernel
theorem dX5_draw_27 : decode cX5_draw 27 = .ok (.ldiv, 1) := by decide +kernel
theorem dX5_draw_28 : decode cX5_draw 28 = .ok (.l2i, 1) := by decide +kernel
theorem dX5_draw_29 : decode cX5_draw 29 = .ok (.ireturn, 1) := by decide +kernel
set_option maxRecDepth 20000 in
theorem ggX5_make_X5_can : GoodIn wsX5_make wsX5_can := goodIn_r _ [10, 11, 75, 76, 77, 78, 79, 80, 81, 82, 83, 84, 85, 86, 87] (by decide +kernel) (by decide +kernel)
set_option maxRecDepth 20000 in
theorem gX5_make_X5_can : GoodIn wsX5_make (wsV RX5 76 RX5 yX5_can wsX5_can) := goodIn_app (goodIn_of _ (by decide +kernel)) ggX5_make_X5_can
set_option maxRecDepth 20000 in
theorem ggX5_make_X5_cells : GoodIn wsX5_make wsX5_cells := goodIn_r _ [15, 16, 17, 75, 76, 77, 78, 79, 80, 81, 82, 83, 84, 85, 86, 87] (by decide +kernel) (by decide +kernel)
set_option maxRecDepth 20000 in
theorem gX5_make_X5_cells : GoodIn wsX5_make (wsV RX5 41 RX5 yX5_cells wsX5_cells) := goodIn_app (goodIn_of _ (by decide +kernel)) ggX5_make_X5_cells
set_option maxRecDepth 20000 in
theorem ggX5_make_X5_draw : GoodIn wsX5_make wsX5_draw := goodIn_r _ [21, 1, 22, 23, 24, 25, 75, 76, 77, 78, 79, 80, 81, 82, 83, 84, 85, 86, 87] (by decide +kernel) (by decide +kernel)
set_option maxRecDepth 20000 in
theorem gX5_make_X5_draw : GoodIn wsX5_make (wsV RX5 117 RX5 yX5_draw wsX5_draw) := goodIn_app (goodIn_of _ (by decide +kernel)) ggX5_make_X5_draw
set_option maxRecDepth 20000 in
theorem ggX5_make_X5_searches : GoodIn wsX5_make wsX5_searches := goodIn_r _ [29, 2, 30, 31, 3, 12, 13, 14, 9, 15, 16, 17, 32, 33, 34, 35, 36, 37, 38, 39, 40, 41, 42, 43, 44, 45, 46, 47, 48, 49, 50, 51, 52, 53, 54, 55, 56, 57, 58, 59, 60, 61, 62, 63, 64, 65, 66, 67, 68, 69, 70, 71, 75, 76, 77, 78, 79, 80, 81, 82, 83, 84, 85, 86, 87] (by decide +kernel) (by decide +kernel)
set_option maxRecDepth 20000 in
theorem gX5_make_X5_searches : GoodIn wsX5_make (wsV RX5 120 RX5 yX5_searches wsX5_searches) := goodIn_app (goodIn_of _ (by decide +kernel)) ggX5_make_X5_searches
set_option maxRecDepth 20000 in
theorem ggX5_make_X5_has : GoodIn wsX5_make wsX5_has := goodIn_r _ [74] (by decide +kernel) (by decide +kernel)
set_option maxRecDepth 20000 in
theorem gX5_make_X5_has : GoodIn wsX5_make (va_wsS RX5 83 yX5_has wsX5_has) := goodIn_app (goodIn_of _ (by decide +kernel)) ggX5_make_X5_has
set_option maxRecDepth 20000 in
theorem ggX5_make_X5_count : GoodIn wsX5_make wsX5_count := goodIn_r _ [67] (by decide +kernel) (by decide +kernel)
set_option maxRecDepth 20000 in
theorem gX5_make_X5_count : GoodIn wsX5_make (va_wsS RX5 57 yX5_count wsX5_count) := goodIn_app (goodIn_of _ (by decide +kernel)) ggX5_make_X5_count
theorem dX5_make_0 : decode cX5_make 0 = .ok (.aload_n 0, 1) := by decide +kernel
theorem dX5_make_1 : decode cX5_make 1 = .ok (.iload_n 1, 1) := by decide +kernel
theorem dX5_make_2 : decode cX5_make 2 = .ok (.ifCond .ge 7, 3) := by decide +kernel
theorem dX5_make_5 : decode cX5_make 5 = .ok (.iconst 1, 1) := by decide +kernel
theorem dX5_make_6 : decode cX5_make 6 = .ok (.goto 4, 3) := by decide +kernel
theorem dX5_make_9 : decode cX5_make 9 = .ok (.iconst 0, 1) := by decide +kernel
theorem dX5_make_10 : decode cX5_make 10 = .ok (.invokevirtual 76, 3) := by decide +kernel
theorem dX5_make_13 : decode cX5_make 13 = .ok (.ifCond .ne 5, 3) := by decide +kernel
theorem dX5_make_16 : decode cX5_make 16 = .ok (.iconst 0, 1) := by decide +kernel
theorem dX5_make_17 : decode cX5_make 17 = .ok (.ireturn, 1) := by decide +kernel
theorem dX5_make_18 : decode cX5_make 18 = .ok (.aload_n 0, 1) := by decide +kernel
theorem dX5_make_19 : decode cX5_make 19 = .ok (.iload_n 1, 1) := by decide +kernel
theorem dX5_make_20 : decode cX5_make 20 = .ok (.i2l, 1) := by decide +kernel
theorem dX5_make_21 : decode cX5_make 21 = .ok (.putfield 105, 3) := by decide +kernel
theorem dX5_make_24 : decode cX5_make 24 = .ok (.iconst 0, 1) := by decide +kernel
theorem dX5_make_25 : decode cX5_make 25 = .ok (.istore_n 2, 1) := by decide +kernel
theorem dX5_make_26 : decode cX5_make 26 = .ok (.iload_n 2, 1) := by decide +kernel
theorem dX5_make_27 : decode cX5_make 27 = .ok (.aload_n 0, 1) := by decide +kernel
theorem dX5_make_28 : decode cX5_make 28 = .ok (.invokevirtual 41, 3) := by decide +kernel
theorem dX5_make_31 : decode cX5_make 31 = .ok (.if_icmp .ge 29, 3) := by decide +kernel
theorem dX5_make_34 : decode cX5_make 34 = .ok (.aload_n 0, 1) := by decide +kernel
theorem dX5_make_35 : decode cX5_make 35 = .ok (.getfield 16, 3) := by decide +kernel
theorem dX5_make_38 : decode cX5_make 38 = .ok (.iload_n 2, 1) := by decide +kernel
theorem dX5_make_39 : decode cX5_make 39 = .ok (.iconst 0, 1) := by decide +kernel
theorem dX5_make_40 : decode cX5_make 40 = .ok (.iastore, 1) := by decide +kernel
theorem dX5_make_41 : decode cX5_make 41 = .ok (.aload_n 0, 1) := by decide +kernel
theorem dX5_make_42 : decode cX5_make 42 = .ok (.getfield 29, 3) := by decide +kernel
theorem dX5_make_45 : decode cX5_make 45 = .ok (.iload_n 2, 1) := by decide +kernel
theorem dX5_make_46 : decode cX5_make 46 = .ok (.aload_n 0, 1) := by decide +kernel
theorem dX5_make_47 : decode cX5_make 47 = .ok (.invokevirtual 117, 3) := by decide +kernel
theorem dX5_make_50 : decode cX5_make 50 = .ok (.bipush 9, 2) := by decide +kernel
theorem dX5_make_52 : decode cX5_make 52 = .ok (.irem, 1) := by decide +kernel
theorem dX5_make_53 : decode cX5_make 53 = .ok (.iastore, 1) := by decide +kernel
theorem dX5_make_54 : decode cX5_make 54 = .ok (.iinc 2 1, 3) := by decide +kernel
theorem dX5_make_57 : decode cX5_make 57 = .ok (.goto (-31), 3) := by decide +kernel
theorem dX5_make_60 : decode cX5_make 60 = .ok (.aload_n 0, 1) := by decide +kernel
theorem dX5_make_61 : decode cX5_make 61 = .ok (.iconst 0, 1) := by decide +kernel
theorem dX5_make_62 : decode cX5_make 62 = .ok (.putfield 73, 3) := by decide +kernel
theorem dX5_make_65 : decode cX5_make 65 = .ok (.aload_n 0, 1) := by decide +kernel
theorem dX5_make_66 : decode cX5_make 66 = .ok (.iconst 1, 1) := by decide +kernel
theorem dX5_make_67 : decode cX5_make 67 = .ok (.iconst 1, 1) := by decide +kernel
theorem dX5_make_68 : decode cX5_make 68 = .ok (.invokevirtual 120, 3) := by decide +kernel
theorem dX5_make_71 : decode cX5_make 71 = .ok (.pop, 1) := by decide +kernel
theorem dX5_make_72 : decode cX5_make 72 = .ok (.aload_n 0, 1) := by decide +kernel
theorem dX5_make_73 : decode cX5_make 73 = .ok (.iconst 1, 1) := by decide +kernel
theorem dX5_make_74 : decode cX5_make 74 = .ok (.aload_n 0, 1) := by decide +kernel
theorem dX5_make_75 : decode cX5_make 75 = .ok (.invokevirtual 41, 3) := by decide +kernel
theorem dX5_make_78 : decode cX5_make 78 = .ok (.ishl, 1) := by decide +kernel
theorem dX5_make_79 : decode cX5_make 79 = .ok (.iconst 1, 1) := by decide +kernel
theorem dX5_make_80 : decode cX5_make 80 = .ok (.isub, 1) := by decide +kernel
theorem dX5_make_81 : decode cX5_make 81 = .ok (.putfield 80, 3) := by decide +kernel
theorem dX5_make_84 : decode cX5_make 84 = .ok (.iconst 0, 1) := by decide +kernel
theorem dX5_make_85 : decode cX5_make 85 = .ok (.istore_n 2, 1) := by decide +kernel
theorem dX5_make_86 : decode cX5_make 86 = .ok (.iload_n 2, 1) := by decide +kernel
theorem dX5_make_87 : decode cX5_make 87 = .ok (.bipush 12, 2) := by decide +kernel
theorem dX5_make_89 : decode cX5_make 89 = .ok (.if_icmp .ge 16, 3) := by decide +kernel
theorem dX5_make_92 : decode cX5_make 92 = .ok (.aload_n 0, 1) := by decide +kernel
theorem dX5_make_93 : decode cX5_make 93 = .ok (.getfield 29, 3) := by decide +kernel
theorem dX5_make_96 : decode cX5_make 96 = .ok (.iload_n 2, 1) := by decide +kernel
theorem dX5_make_97 : decode cX5_make 97 = .ok (.iconst 0, 1) := by decide +kernel
theorem dX5_make_98 : decode cX5_make 98 = .ok (.iastore, 1) := by decide +kernel
theorem dX5_make_99 : decode cX5_make 99 = .ok (.iinc 2 1, 3) := by decide +kernel
theorem dX5_make_102 : decode cX5_make 102 = .ok (.goto (-16), 3) := by decide +kernel
theorem dX5_make_105 : decode cX5_make 105 = .ok (.iconst 0, 1) := by decide +kernel
theorem dX5_make_106 : decode cX5_make 106 = .ok (.istore_n 2, 1) := by decide +kernel
theorem dX5_make_107 : decode cX5_make 107 = .ok (.iload_n 2, 1) := by decide +kernel
theorem dX5_make_108 : decode cX5_make 108 = .ok (.aload_n 0, 1) := by decide +kernel
theorem dX5_make_109 : decode cX5_make 109 = .ok (.invokevirtual 41, 3) := by decide +kernel
theorem dX5_make_112 : decode cX5_make 112 = .ok (.if_icmp .ge 105, 3) := by decide +kernel
theorem dX5_make_115 : decode cX5_make 115 = .ok (.aload_n 0, 1) := by decide +kernel
theorem dX5_make_116 : decode cX5_make 116 = .ok (.invokevirtual 117, 3) := by decide +kernel
theorem dX5_make_119 : decode cX5_make 119 = .ok (.aload_n 0, 1) := by decide +kernel
theorem dX5_make_120 : decode cX5_make 120 = .ok (.invokevirtual 41, 3) := by decide +kernel
theorem dX5_make_123 : decode cX5_make 123 = .ok (.irem, 1) := by decide +kernel
theorem dX5_make_124 : decode cX5_make 124 = .ok (.istore_n 3, 1) := by decide +kernel
theorem dX5_make_125 : decode cX5_make 125 = .ok (.aload_n 0, 1) := by decide +kernel
theorem dX5_make_126 : decode cX5_make 126 = .ok (.getfield 16, 3) := by decide +kernel
theorem dX5_make_129 : decode cX5_make 129 = .ok (.iload_n 3, 1) := by decide +kernel
theorem dX5_make_130 : decode cX5_make 130 = .ok (.iaload, 1) := by decide +kernel
theorem dX5_make_131 : decode cX5_make 131 = .ok (.istore 4, 2) := by decide +kernel
theorem dX5_make_133 : decode cX5_make 133 = .ok (.aload_n 0, 1) := by decide +kernel
theorem dX5_make_134 : decode cX5_make 134 = .ok (.getfield 16, 3) := by decide +kernel
theorem dX5_make_137 : decode cX5_make 137 = .ok (.iload_n 3, 1) := by decide +kernel
theorem dX5_make_138 : decode cX5_make 138 = .ok (.iconst 0, 1) := by decide +kernel
theorem dX5_make_139 : decode cX5_make 139 = .ok (.iastore, 1) := by decide +kernel
theorem dX5_make_140 : decode cX5_make 140 = .ok (.aload_n 0, 1) := by decide +kernel
theorem dX5_make_141 : decode cX5_make 141 = .ok (.getfield 80, 3) := by decide +kernel
theorem dX5_make_144 : decode cX5_make 144 = .ok (.iload_n 3, 1) := by decide +kernel
theorem dX5_make_145 : decode cX5_make 145 = .ok (.invokestatic 83, 3) := by decide +kernel
theorem dX5_make_148 : decode cX5_make 148 = .ok (.ifCond .eq 17, 3) := by decide +kernel
theorem dX5_make_151 : decode cX5_make 151 = .ok (.aload_n 0, 1) := by decide +kernel
theorem dX5_make_152 : decode cX5_make 152 = .ok (.iconst 2, 1) := by decide +kernel
theorem dX5_make_153 : decode cX5_make 153 = .ok (.iconst 0, 1) := by decide +kernel
theorem dX5_make_154 : decode cX5_make 154 = .ok (.invokevirtual 120, 3) := by decide +kernel
theorem dX5_make_157 : decode cX5_make 157 = .ok (.iconst 1, 1) := by decide +kernel
theorem dX5_make_158 : decode cX5_make 158 = .ok (.if_icmp .ne 7, 3) := by decide +kernel
theorem dX5_make_161 : decode cX5_make 161 = .ok (.iconst 1, 1) := by decide +kernel
theorem dX5_make_162 : decode cX5_make 162 = .ok (.goto 4, 3) := by decide +kernel
theorem dX5_make_165 : decode cX5_make 165 = .ok (.iconst 0, 1) := by decide +kernel
theorem dX5_make_166 : decode cX5_make 166 = .ok (.istore 5, 2) := by decide +kernel
theorem dX5_make_168 : decode cX5_make 168 = .ok (.aload_n 0, 1) := by decide +kernel
theorem dX5_make_169 : decode cX5_make 169 = .ok (.iload 5, 2) := by decide +kernel
theorem dX5_make_171 : decode cX5_make 171 = .ok (.ifCond .eq 16, 3) := by decide +kernel
theorem dX5_make_174 : decode cX5_make 174 = .ok (.aload_n 0, 1) := by decide +kernel
theorem dX5_make_175 : decode cX5_make 175 = .ok (.getfield 80, 3) := by decide +kernel
theorem dX5_make_178 : decode cX5_make 178 = .ok (.iconst 1, 1) := by decide +kernel
theorem dX5_make_179 : decode cX5_make 179 = .ok (.iload_n 3, 1) := by decide +kernel
theorem dX5_make_180 : decode cX5_make 180 = .ok (.ishl, 1) := by decide +kernel
theorem dX5_make_181 : decode cX5_make 181 = .ok (.iconst (-1), 1) := by decide +kernel
theorem dX5_make_182 : decode cX5_make 182 = .ok (.ixor, 1) := by decide +kernel
theorem dX5_make_183 : decode cX5_make 183 = .ok (.iand, 1) := by decide +kernel
theorem dX5_make_184 : decode cX5_make 184 = .ok (.goto 7, 3) := by decide +kernel
theorem dX5_make_187 : decode cX5_make 187 = .ok (.aload_n 0, 1) := by decide +kernel
theorem dX5_make_188 : decode cX5_make 188 = .ok (.getfield 80, 3) := by decide +kernel
theorem dX5_make_191 : decode cX5_make 191 = .ok (.putfield 80, 3) := by decide +kernel
theorem dX5_make_194 : decode cX5_make 194 = .ok (.aload_n 0, 1) := by decide +kernel
theorem dX5_make_195 : decode cX5_make 195 = .ok (.getfield 16, 3) := by decide +kernel
theorem dX5_make_198 : decode cX5_make 198 = .ok (.iload_n 3, 1) := by decide +kernel
theorem dX5_make_199 : decode cX5_make 199 = .ok (.iload 5, 2) := by decide +kernel
theorem dX5_make_201 : decode cX5_make 201 = .ok (.ifCond .eq 7, 3) := by decide +kernel
theorem dX5_make_204 : decode cX5_make 204 = .ok (.iconst 0, 1) := by decide +kernel
theorem dX5_make_205 : decode cX5_make 205 = .ok (.goto 5, 3) := by decide +kernel
theorem dX5_make_208 : decode cX5_make 208 = .ok (.iload 4, 2) := by decide +kernel
theorem dX5_make_210 : decode cX5_make 210 = .ok (.iastore, 1) := by decide +kernel
theorem dX5_make_211 : decode cX5_make 211 = .ok (.iinc 2 1, 3) := by decide +kernel
theorem dX5_make_214 : decode cX5_make 214 = .ok (.goto (-107), 3) := by decide +kernel
theorem dX5_make_217 : decode cX5_make 217 = .ok (.aload_n 0, 1) := by decide +kernel
theorem dX5_make_218 : decode cX5_make 218 = .ok (.getfield 80, 3) := by decide +kernel
theorem dX5_make_221 : decode cX5_make 221 = .ok (.invokestatic 57, 3) := by decide +kernel
theorem dX5_make_224 : decode cX5_make 224 = .ok (.ireturn, 1) := by decide +kernel
set_option maxRecDepth 20000 in
theorem ggX5_puts_X5_looks : GoodIn wsX5_puts wsX5_looks := goodIn_r _ [8, 9, 1, 10, 11, 12, 7, 13, 14, 15, 16, 17, 18, 19, 20, 21, 22, 23, 24, 25, 26, 27, 28] (by decide +kernel) (by decide +kernel)
set_option maxRecDepth 20000 in
theorem gX5_puts_X5_looks : GoodIn wsX5_puts (wsV RX5 60 RX5 yX5_looks wsX5_looks) := goodIn_app (goodIn_of _ (by decide +kernel)) ggX5_puts_X5_looks
theorem dX5_puts_0 : decode cX5_puts 0 = .ok (.aload_n 0, 1) := by decide +kernel
theorem dX5_puts_1 : decode cX5_puts 1 = .ok (.getfield 16, 3) := by decide +kernel
theorem dX5_puts_4 : decode cX5_puts 4 = .ok (.iload_n 1, 1) := by decide +kernel
theorem dX5_puts_5 : decode cX5_puts 5 = .ok (.iload_n 2, 1) := by decide +kernel
theorem dX5_puts_6 : decode cX5_puts 6 = .ok (.iastore, 1) := by decide +kernel
theorem dX5_puts_7 : decode cX5_puts 7 = .ok (.aload_n 0, 1) := by decide +kernel
theorem dX5_puts_8 : decode cX5_puts 8 = .ok (.getfield 20, 3) := by decide +kernel
theorem dX5_puts_11 : decode cX5_puts 11 = .ok (.aload_n 0, 1) := by decide +kernel
theorem dX5_puts_12 : decode cX5_puts 12 = .ok (.getfield 73, 3) := by decide +kernel
theorem dX5_puts_15 : decode cX5_puts 15 = .ok (.iload_n 1, 1) := by decide +kernel
theorem dX5_puts_16 : decode cX5_puts 16 = .ok (.iastore, 1) := by decide +kernel
theorem dX5_puts_17 : decode cX5_puts 17 = .ok (.aload_n 0, 1) := by decide +kernel
theorem dX5_puts_18 : decode cX5_puts 18 = .ok (.dup, 1) := by decide +kernel
theorem dX5_puts_19 : decode cX5_puts 19 = .ok (.getfield 73, 3) := by decide +kernel
theorem dX5_puts_22 : decode cX5_puts 22 = .ok (.iconst 1, 1) := by decide +kernel
theorem dX5_puts_23 : decode cX5_puts 23 = .ok (.iadd, 1) := by decide +kernel
theorem dX5_puts_24 : decode cX5_puts 24 = .ok (.putfield 73, 3) := by decide +kernel
theorem dX5_puts_27 : decode cX5_puts 27 = .ok (.aload_n 0, 1) := by decide +kernel
theorem dX5_puts_28 : decode cX5_puts 28 = .ok (.invokevirtual 60, 3) := by decide +kernel
theorem dX5_puts_31 : decode cX5_puts 31 = .ok (.return_, 1) := by decide +kernel
set_option maxRecDepth 20000 in
theorem ggX5_fill_X5_isCell : GoodIn wsX5_fill wsX5_isCell := goodIn_r _ [5, 6, 7, 8, 4, 9, 10, 11, 12, 13, 14, 59, 60, 61, 62, 63, 64, 65, 66, 67, 68, 69, 70, 71] (by decide +kernel) (by decide +kernel)
set_option maxRecDepth 20000 in
theorem gX5_fill_X5_isCell : GoodIn wsX5_fill (wsV RX5 87 RX5 yX5_isCell wsX5_isCell) := goodIn_app (goodIn_of _ (by decide +kernel)) ggX5_fill_X5_isCell
set_option maxRecDepth 20000 in
theorem ggX5_fill_X5_isIn : GoodIn wsX5_fill wsX5_isIn := goodIn_r _ [14] (by decide +kernel) (by decide +kernel)
set_option maxRecDepth 20000 in
theorem gX5_fill_X5_isIn : GoodIn wsX5_fill (va_wsS RX5 45 yX5_isIn wsX5_isIn) := goodIn_app (goodIn_of _ (by decide +kernel)) ggX5_fill_X5_isIn
set_option maxRecDepth 20000 in
theorem ggX5_fill_X5_fits : GoodIn wsX5_fill wsX5_fits := goodIn_r _ [18, 19, 20, 21, 22, 4, 23, 24, 25, 26, 27, 28, 6, 7, 8, 9, 10, 11, 29, 30, 31, 32, 33, 34, 35, 36, 37, 38, 39, 40, 41, 42, 43, 44, 45, 46, 47, 59, 60, 61, 62, 63, 64, 65, 66, 67, 68, 69, 70, 71] (by decide +kernel) (by decide +kernel)
set_option maxRecDepth 20000 in
theorem gX5_fill_X5_fits : GoodIn wsX5_fill (wsV RX5 102 RX5 yX5_fits wsX5_fits) := goodIn_app (goodIn_of _ (by decide +kernel)) ggX5_fill_X5_fits
set_option maxRecDepth 20000 in
theorem ggX5_fill_X5_can : GoodIn wsX5_fill wsX5_can := goodIn_r _ [51, 52, 59, 60, 61, 62, 63, 64, 65, 66, 67, 68, 69, 70, 71] (by decide +kernel) (by decide +kernel)
set_option maxRecDepth 20000 in
theorem gX5_fill_X5_can : GoodIn wsX5_fill (wsV RX5 76 RX5 yX5_can wsX5_can) := goodIn_app (goodIn_of _ (by decide +kernel)) ggX5_fill_X5_can
set_option maxRecDepth 20000 in
theorem ggX5_fill_X5_puts : GoodIn wsX5_fill wsX5_puts := goodIn_r _ [56, 19, 57, 58, 24, 25, 26, 4, 27, 28, 6, 7, 8, 9, 10, 11, 59, 60, 61, 62, 63, 64, 65, 66, 67, 68, 69, 70, 71] (by decide +kernel) (by decide +kernel)
set_option maxRecDepth 20000 in
theorem gX5_fill_X5_puts : GoodIn wsX5_fill (wsV RX5 124 RX5 yX5_puts wsX5_puts) := goodIn_app (goodIn_of _ (by decide +kernel)) ggX5_fill_X5_puts
set_option maxRecDepth 20000 in
theorem ggX5_fill_X5_fieldOf : GoodIn wsX5_fill wsX5_fieldOf := goodIn_r _ [32, 28, 19, 33, 34, 35, 4, 36, 37, 38, 39, 40, 10, 11, 6, 7, 8, 9, 59, 60, 61, 62, 63, 64, 65, 66, 67, 68, 69, 70, 71] (by decide +kernel) (by decide +kernel)
set_option maxRecDepth 20000 in
theorem gX5_fill_X5_fieldOf : GoodIn wsX5_fill (wsV RX5 63 RX5 yX5_fieldOf wsX5_fieldOf) := goodIn_app (goodIn_of _ (by decide +kernel)) ggX5_fill_X5_fieldOf
set_option maxRecDepth 20000 in
theorem ggX5_fill_X5_count : GoodIn wsX5_fill wsX5_count := goodIn_r _ [43] (by decide +kernel) (by decide +kernel)
set_option maxRecDepth 20000 in
theorem gX5_fill_X5_count : GoodIn wsX5_fill (va_wsS RX5 57 yX5_count wsX5_count) := goodIn_app (goodIn_of _ (by decide +kernel)) ggX5_fill_X5_count
theorem dX5_fill_0 : decode cX5_fill 0 = .ok (.aload_n 0, 1) := by decide +kernel
theorem dX5_fill_1 : decode cX5_fill 1 = .ok (.aload_n 0, 1) := by decide +kernel
theorem dX5_fill_2 : decode cX5_fill 2 = .ok (.iload_n 1, 1) := by decide +kernel
theorem dX5_fill_3 : decode cX5_fill 3 = .ok (.invokevirtual 87, 3) := by decide +kernel
theorem dX5_fill_6 : decode cX5_fill 6 = .ok (.ifCond .ne 7, 3) := by decide +kernel
theorem dX5_fill_9 : decode cX5_fill 9 = .ok (.iconst 1, 1) := by decide +kernel
theorem dX5_fill_10 : decode cX5_fill 10 = .ok (.goto 31, 3) := by decide +kernel
theorem dX5_fill_13 : decode cX5_fill 13 = .ok (.iload_n 2, 1) := by decide +kernel
theorem dX5_fill_14 : decode cX5_fill 14 = .ok (.iconst 1, 1) := by decide +kernel
theorem dX5_fill_15 : decode cX5_fill 15 = .ok (.bipush 9, 2) := by decide +kernel
theorem dX5_fill_17 : decode cX5_fill 17 = .ok (.invokestatic 45, 3) := by decide +kernel
theorem dX5_fill_20 : decode cX5_fill 20 = .ok (.ifCond .ne 7, 3) := by decide +kernel
theorem dX5_fill_23 : decode cX5_fill 23 = .ok (.iconst 2, 1) := by decide +kernel
theorem dX5_fill_24 : decode cX5_fill 24 = .ok (.goto 17, 3) := by decide +kernel
theorem dX5_fill_27 : decode cX5_fill 27 = .ok (.aload_n 0, 1) := by decide +kernel
theorem dX5_fill_28 : decode cX5_fill 28 = .ok (.iload_n 1, 1) := by decide +kernel
theorem dX5_fill_29 : decode cX5_fill 29 = .ok (.iload_n 2, 1) := by decide +kernel
theorem dX5_fill_30 : decode cX5_fill 30 = .ok (.invokevirtual 102, 3) := by decide +kernel
theorem dX5_fill_33 : decode cX5_fill 33 = .ok (.ifCond .eq 7, 3) := by decide +kernel
theorem dX5_fill_36 : decode cX5_fill 36 = .ok (.iconst 0, 1) := by decide +kernel
theorem dX5_fill_37 : decode cX5_fill 37 = .ok (.goto 4, 3) := by decide +kernel
theorem dX5_fill_40 : decode cX5_fill 40 = .ok (.iconst 3, 1) := by decide +kernel
theorem dX5_fill_41 : decode cX5_fill 41 = .ok (.invokevirtual 76, 3) := by decide +kernel
theorem dX5_fill_44 : decode cX5_fill 44 = .ok (.ifCond .ne 5, 3) := by decide +kernel
theorem dX5_fill_47 : decode cX5_fill 47 = .ok (.iconst 0, 1) := by decide +kernel
theorem dX5_fill_48 : decode cX5_fill 48 = .ok (.ireturn, 1) := by decide +kernel
theorem dX5_fill_49 : decode cX5_fill 49 = .ok (.aload_n 0, 1) := by decide +kernel
theorem dX5_fill_50 : decode cX5_fill 50 = .ok (.iload_n 1, 1) := by decide +kernel
theorem dX5_fill_51 : decode cX5_fill 51 = .ok (.iload_n 2, 1) := by decide +kernel
theorem dX5_fill_52 : decode cX5_fill 52 = .ok (.invokevirtual 124, 3) := by decide +kernel
theorem dX5_fill_55 : decode cX5_fill 55 = .ok (.aload_n 0, 1) := by decide +kernel
theorem dX5_fill_56 : decode cX5_fill 56 = .ok (.iload_n 1, 1) := by decide +kernel
theorem dX5_fill_57 : decode cX5_fill 57 = .ok (.invokevirtual 63, 3) := by decide +kernel
theorem dX5_fill_60 : decode cX5_fill 60 = .ok (.invokestatic 57, 3) := by decide +kernel
theorem dX5_fill_63 : decode cX5_fill 63 = .ok (.ireturn, 1) := by decide +kernel
set_option maxRecDepth 20000 in
theorem ggX5_undo_X5_can : GoodIn wsX5_undo wsX5_can := goodIn_r _ [8, 9, 10, 11, 12, 13, 14, 15, 16, 17, 18, 19, 20, 21, 22] (by decide +kernel) (by decide +kernel)
set_option maxRecDepth 20000 in
theorem gX5_undo_X5_can : GoodIn wsX5_undo (wsV RX5 76 RX5 yX5_can wsX5_can) := goodIn_app (goodIn_of _ (by decide +kernel)) ggX5_undo_X5_can
theorem dX5_undo_0 : decode cX5_undo 0 = .ok (.aload_n 0, 1) := by decide +kernel
theorem dX5_undo_1 : decode cX5_undo 1 = .ok (.aload_n 0, 1) := by decide +kernel
theorem dX5_undo_2 : decode cX5_undo 2 = .ok (.getfield 73, 3) := by decide +kernel
theorem dX5_undo_5 : decode cX5_undo 5 = .ok (.ifCond .ne 7, 3) := by decide +kernel
theorem dX5_undo_8 : decode cX5_undo 8 = .ok (.iconst 1, 1) := by decide +kernel
theorem dX5_undo_9 : decode cX5_undo 9 = .ok (.goto 4, 3) := by decide +kernel
theorem dX5_undo_12 : decode cX5_undo 12 = .ok (.iconst 0, 1) := by decide +kernel
theorem dX5_undo_13 : decode cX5_undo 13 = .ok (.invokevirtual 76, 3) := by decide +kernel
theorem dX5_undo_16 : decode cX5_undo 16 = .ok (.ifCond .ne 5, 3) := by decide +kernel
theorem dX5_undo_19 : decode cX5_undo 19 = .ok (.iconst 0, 1) := by decide +kernel
theorem dX5_undo_20 : decode cX5_undo 20 = .ok (.ireturn, 1) := by decide +kernel
theorem dX5_undo_21 : decode cX5_undo 21 = .ok (.aload_n 0, 1) := by decide +kernel
theorem dX5_undo_22 : decode cX5_undo 22 = .ok (.dup, 1) := by decide +kernel
theorem dX5_undo_23 : decode cX5_undo 23 = .ok (.getfield 73, 3) := by decide +kernel
theorem dX5_undo_26 : decode cX5_undo 26 = .ok (.iconst 1, 1) := by decide +kernel
theorem dX5_undo_27 : decode cX5_undo 27 = .ok (.isub, 1) := by decide +kernel
theorem dX5_undo_28 : decode cX5_undo 28 = .ok (.putfield 73, 3) := by decide +kernel
theorem dX5_undo_31 : decode cX5_undo 31 = .ok (.aload_n 0, 1) := by decide +kernel
theorem dX5_undo_32 : decode cX5_undo 32 = .ok (.getfield 16, 3) := by decide +kernel
theorem dX5_undo_35 : decode cX5_undo 35 = .ok (.aload_n 0, 1) := by decide +kernel
theorem dX5_undo_36 : decode cX5_undo 36 = .ok (.getfield 20, 3) := by decide +kernel
theorem dX5_undo_39 : decode cX5_undo 39 = .ok (.aload_n 0, 1) := by decide +kernel
theorem dX5_undo_40 : decode cX5_undo 40 = .ok (.getfield 73, 3) := by decide +kernel
theorem dX5_undo_43 : decode cX5_undo 43 = .ok (.iaload, 1) := by decide +kernel
theorem dX5_undo_44 : decode cX5_undo 44 = .ok (.iconst 0, 1) := by decide +kernel
theorem dX5_undo_45 : decode cX5_undo 45 = .ok (.iastore, 1) := by decide +kernel
theorem dX5_undo_46 : decode cX5_undo 46 = .ok (.aload_n 0, 1) := by decide +kernel
theorem dX5_undo_47 : decode cX5_undo 47 = .ok (.getfield 20, 3) := by decide +kernel
theorem dX5_undo_50 : decode cX5_undo 50 = .ok (.aload_n 0, 1) := by decide +kernel
theorem dX5_undo_51 : decode cX5_undo 51 = .ok (.getfield 73, 3) := by decide +kernel
theorem dX5_undo_54 : decode cX5_undo 54 = .ok (.iaload, 1) := by decide +kernel
theorem dX5_undo_55 : decode cX5_undo 55 = .ok (.ireturn, 1) := by decide +kernel
set_option maxRecDepth 20000 in
theorem ggX5_isShape_X5_count : GoodIn wsX5_isShape wsX5_count := goodIn_r _ [6] (by decide +kernel) (by decide +kernel)
set_option maxRecDepth 20000 in
theorem gX5_isShape_X5_count : GoodIn wsX5_isShape (va_wsS RX5 57 yX5_count wsX5_count) := goodIn_app (goodIn_of _ (by decide +kernel)) ggX5_isShape_X5_count
set_option maxRecDepth 20000 in
theorem ggX5_isShape_X5_fieldOf : GoodIn wsX5_isShape wsX5_fieldOf := goodIn_r _ [10, 2, 1, 11, 12, 13, 5, 14, 15, 16, 17, 18, 19, 20, 21, 22, 23, 24, 25, 26, 27, 28, 29, 30, 31, 32, 33, 34, 35, 36, 37] (by decide +kernel) (by decide +kernel)
set_option maxRecDepth 20000 in
theorem gX5_isShape_X5_fieldOf : GoodIn wsX5_isShape (wsV RX5 63 RX5 yX5_fieldOf wsX5_fieldOf) := goodIn_app (goodIn_of _ (by decide +kernel)) ggX5_isShape_X5_fieldOf
set_option maxRecDepth 20000 in
theorem ggX5_isShape_X5_grown : GoodIn wsX5_isShape wsX5_grown := goodIn_r _ [14, 15, 16, 17, 5, 18, 19, 20, 21, 22, 23, 24, 25, 26, 27, 28, 29, 30, 31, 32, 33, 34, 35, 36, 37] (by decide +kernel) (by decide +kernel)
set_option maxRecDepth 20000 in
theorem gX5_isShape_X5_grown : GoodIn wsX5_isShape (wsV RX5 53 RX5 yX5_grown wsX5_grown) := goodIn_app (goodIn_of _ (by decide +kernel)) ggX5_isShape_X5_grown
set_option maxRecDepth 20000 in
theorem ggX5_isShape_X5_beside : GoodIn wsX5_isShape wsX5_beside := goodIn_r _ [18, 19, 20, 21, 22, 23, 5, 24, 25, 26, 27, 28, 29, 30, 31, 32, 33, 34, 35, 36, 37] (by decide +kernel) (by decide +kernel)
set_option maxRecDepth 20000 in
theorem gX5_isShape_X5_beside : GoodIn wsX5_isShape (wsV RX5 49 RX5 yX5_beside wsX5_beside) := goodIn_app (goodIn_of _ (by decide +kernel)) ggX5_isShape_X5_beside
theorem dX5_isShape_0 : decode cX5_isShape 0 = .ok (.aload_n 0, 1) := by decide +kernel
theorem dX5_isShape_1 : decode cX5_isShape 1 = .ok (.getfield 16, 3) := by decide +kernel
theorem dX5_isShape_4 : decode cX5_isShape 4 = .ok (.iload_n 2, 1) := by decide +kernel
theorem dX5_isShape_5 : decode cX5_isShape 5 = .ok (.iaload, 1) := by decide +kernel
theorem dX5_isShape_6 : decode cX5_isShape 6 = .ok (.istore_n 3, 1) := by decide +kernel
theorem dX5_isShape_7 : decode cX5_isShape 7 = .ok (.iload_n 1, 1) := by decide +kernel
theorem dX5_isShape_8 : decode cX5_isShape 8 = .ok (.invokestatic 57, 3) := by decide +kernel
theorem dX5_isShape_11 : decode cX5_isShape 11 = .ok (.iload_n 3, 1) := by decide +kernel
theorem dX5_isShape_12 : decode cX5_isShape 12 = .ok (.if_icmp .ne 23, 3) := by decide +kernel
theorem dX5_isShape_15 : decode cX5_isShape 15 = .ok (.iload_n 1, 1) := by decide +kernel
theorem dX5_isShape_16 : decode cX5_isShape 16 = .ok (.aload_n 0, 1) := by decide +kernel
theorem dX5_isShape_17 : decode cX5_isShape 17 = .ok (.getfield 23, 3) := by decide +kernel
theorem dX5_isShape_20 : decode cX5_isShape 20 = .ok (.iload_n 3, 1) := by decide +kernel
theorem dX5_isShape_21 : decode cX5_isShape 21 = .ok (.iaload, 1) := by decide +kernel
theorem dX5_isShape_22 : decode cX5_isShape 22 = .ok (.aload_n 0, 1) := by decide +kernel
theorem dX5_isShape_23 : decode cX5_isShape 23 = .ok (.getfield 23, 3) := by decide +kernel
theorem dX5_isShape_26 : decode cX5_isShape 26 = .ok (.iconst 0, 1) := by decide +kernel
theorem dX5_isShape_27 : decode cX5_isShape 27 = .ok (.iaload, 1) := by decide +kernel
theorem dX5_isShape_28 : decode cX5_isShape 28 = .ok (.ior, 1) := by decide +kernel
theorem dX5_isShape_29 : decode cX5_isShape 29 = .ok (.iconst (-1), 1) := by decide +kernel
theorem dX5_isShape_30 : decode cX5_isShape 30 = .ok (.ixor, 1) := by decide +kernel
theorem dX5_isShape_31 : decode cX5_isShape 31 = .ok (.iand, 1) := by decide +kernel
theorem dX5_isShape_32 : decode cX5_isShape 32 = .ok (.ifCond .eq 5, 3) := by decide +kernel
theorem dX5_isShape_35 : decode cX5_isShape 35 = .ok (.iconst 0, 1) := by decide +kernel
theorem dX5_isShape_36 : decode cX5_isShape 36 = .ok (.ireturn, 1) := by decide +kernel
theorem dX5_isShape_37 : decode cX5_isShape 37 = .ok (.aload_n 0, 1) := by decide +kernel
theorem dX5_isShape_38 : decode cX5_isShape 38 = .ok (.iload_n 2, 1) := by decide +kernel
theorem dX5_isShape_39 : decode cX5_isShape 39 = .ok (.invokevirtual 63, 3) := by decide +kernel
theorem dX5_isShape_42 : decode cX5_isShape 42 = .ok (.istore 4, 2) := by decide +kernel
theorem dX5_isShape_44 : decode cX5_isShape 44 = .ok (.iload_n 1, 1) := by decide +kernel
theorem dX5_isShape_45 : decode cX5_isShape 45 = .ok (.iload 4, 2) := by decide +kernel
theorem dX5_isShape_47 : decode cX5_isShape 47 = .ok (.iand, 1) := by decide +kernel
theorem dX5_isShape_48 : decode cX5_isShape 48 = .ok (.iload 4, 2) := by decide +kernel
theorem dX5_isShape_50 : decode cX5_isShape 50 = .ok (.if_icmp .ne 38, 3) := by decide +kernel
theorem dX5_isShape_53 : decode cX5_isShape 53 = .ok (.aload_n 0, 1) := by decide +kernel
theorem dX5_isShape_54 : decode cX5_isShape 54 = .ok (.iconst 1, 1) := by decide +kernel
theorem dX5_isShape_55 : decode cX5_isShape 55 = .ok (.iload_n 2, 1) := by decide +kernel
theorem dX5_isShape_56 : decode cX5_isShape 56 = .ok (.ishl, 1) := by decide +kernel
theorem dX5_isShape_57 : decode cX5_isShape 57 = .ok (.iload_n 1, 1) := by decide +kernel
theorem dX5_isShape_58 : decode cX5_isShape 58 = .ok (.invokevirtual 53, 3) := by decide +kernel
theorem dX5_isShape_61 : decode cX5_isShape 61 = .ok (.iload_n 1, 1) := by decide +kernel
theorem dX5_isShape_62 : decode cX5_isShape 62 = .ok (.if_icmp .ne 26, 3) := by decide +kernel
theorem dX5_isShape_65 : decode cX5_isShape 65 = .ok (.aload_n 0, 1) := by decide +kernel
theorem dX5_isShape_66 : decode cX5_isShape 66 = .ok (.iload_n 1, 1) := by decide +kernel
theorem dX5_isShape_67 : decode cX5_isShape 67 = .ok (.invokevirtual 49, 3) := by decide +kernel
theorem dX5_isShape_70 : decode cX5_isShape 70 = .ok (.iload_n 1, 1) := by decide +kernel
theorem dX5_isShape_71 : decode cX5_isShape 71 = .ok (.iconst (-1), 1) := by decide +kernel
theorem dX5_isShape_72 : decode cX5_isShape 72 = .ok (.ixor, 1) := by decide +kernel
theorem dX5_isShape_73 : decode cX5_isShape 73 = .ok (.iand, 1) := by decide +kernel
theorem dX5_isShape_74 : decode cX5_isShape 74 = .ok (.aload_n 0, 1) := by decide +kernel
theorem dX5_isShape_75 : decode cX5_isShape 75 = .ok (.getfield 23, 3) := by decide +kernel
theorem dX5_isShape_78 : decode cX5_isShape 78 = .ok (.iload_n 3, 1) := by decide +kernel
theorem dX5_isShape_79 : decode cX5_isShape 79 = .ok (.iaload, 1) := by decide +kernel
theorem dX5_isShape_80 : decode cX5_isShape 80 = .ok (.iand, 1) := by decide +kernel
theorem dX5_isShape_81 : decode cX5_isShape 81 = .ok (.ifCond .ne 7, 3) := by decide +kernel
theorem dX5_isShape_84 : decode cX5_isShape 84 = .ok (.iconst 1, 1) := by decide +kernel
theorem dX5_isShape_85 : decode cX5_isShape 85 = .ok (.goto 4, 3) := by decide +kernel
theorem dX5_isShape_88 : decode cX5_isShape 88 = .ok (.iconst 0, 1) := by decide +kernel
theorem dX5_isShape_89 : decode cX5_isShape 89 = .ok (.ireturn, 1) := by decide +kernel
set_option maxRecDepth 20000 in
theorem ggX5_shapesOf_X5_cells : GoodIn wsX5_shapesOf wsX5_cells := goodIn_r _ [5, 6, 7, 29, 30, 31, 32, 33, 34, 35, 36, 37, 38, 39, 40, 41] (by decide +kernel) (by decide +kernel)
set_option maxRecDepth 20000 in
theorem gX5_shapesOf_X5_cells : GoodIn wsX5_shapesOf (wsV RX5 41 RX5 yX5_cells wsX5_cells) := goodIn_app (goodIn_of _ (by decide +kernel)) ggX5_shapesOf_X5_cells
set_option maxRecDepth 20000 in
theorem ggX5_shapesOf_X5_isShape : GoodIn wsX5_shapesOf wsX5_isShape := goodIn_r _ [11, 12, 13, 14, 15, 4, 16, 17, 18, 19, 20, 21, 22, 23, 24, 25, 26, 27, 28, 6, 7, 1, 2, 3, 5, 29, 30, 31, 32, 33, 34, 35, 36, 37, 38, 39, 40, 41] (by decide +kernel) (by decide +kernel)
set_option maxRecDepth 20000 in
theorem gX5_shapesOf_X5_isShape : GoodIn wsX5_shapesOf (wsV RX5 128 RX5 yX5_isShape wsX5_isShape) := goodIn_app (goodIn_of _ (by decide +kernel)) ggX5_shapesOf_X5_isShape
theorem dX5_shapesOf_0 : decode cX5_shapesOf 0 = .ok (.iconst 0, 1) := by decide +kernel
theorem dX5_shapesOf_1 : decode cX5_shapesOf 1 = .ok (.istore_n 3, 1) := by decide +kernel
theorem dX5_shapesOf_2 : decode cX5_shapesOf 2 = .ok (.iconst 1, 1) := by decide +kernel
theorem dX5_shapesOf_3 : decode cX5_shapesOf 3 = .ok (.istore 4, 2) := by decide +kernel
theorem dX5_shapesOf_5 : decode cX5_shapesOf 5 = .ok (.iload 4, 2) := by decide +kernel
theorem dX5_shapesOf_7 : decode cX5_shapesOf 7 = .ok (.iconst 1, 1) := by decide +kernel
theorem dX5_shapesOf_8 : decode cX5_shapesOf 8 = .ok (.aload_n 0, 1) := by decide +kernel
theorem dX5_shapesOf_9 : decode cX5_shapesOf 9 = .ok (.invokevirtual 41, 3) := by decide +kernel
theorem dX5_shapesOf_12 : decode cX5_shapesOf 12 = .ok (.ishl, 1) := by decide +kernel
theorem dX5_shapesOf_13 : decode cX5_shapesOf 13 = .ok (.if_icmp .ge 35, 3) := by decide +kernel
theorem dX5_shapesOf_16 : decode cX5_shapesOf 16 = .ok (.iload_n 3, 1) := by decide +kernel
theorem dX5_shapesOf_17 : decode cX5_shapesOf 17 = .ok (.iload 4, 2) := by decide +kernel
theorem dX5_shapesOf_19 : decode cX5_shapesOf 19 = .ok (.iload_n 2, 1) := by decide +kernel
theorem dX5_shapesOf_20 : decode cX5_shapesOf 20 = .ok (.iand, 1) := by decide +kernel
theorem dX5_shapesOf_21 : decode cX5_shapesOf 21 = .ok (.iload_n 2, 1) := by decide +kernel
theorem dX5_shapesOf_22 : decode cX5_shapesOf 22 = .ok (.if_icmp .ne 17, 3) := by decide +kernel
theorem dX5_shapesOf_25 : decode cX5_shapesOf 25 = .ok (.aload_n 0, 1) := by decide +kernel
theorem dX5_shapesOf_26 : decode cX5_shapesOf 26 = .ok (.iload 4, 2) := by decide +kernel
theorem dX5_shapesOf_28 : decode cX5_shapesOf 28 = .ok (.iload_n 1, 1) := by decide +kernel
theorem dX5_shapesOf_29 : decode cX5_shapesOf 29 = .ok (.invokevirtual 128, 3) := by decide +kernel
theorem dX5_shapesOf_32 : decode cX5_shapesOf 32 = .ok (.ifCond .eq 7, 3) := by decide +kernel
theorem dX5_shapesOf_35 : decode cX5_shapesOf 35 = .ok (.iconst 1, 1) := by decide +kernel
theorem dX5_shapesOf_36 : decode cX5_shapesOf 36 = .ok (.goto 4, 3) := by decide +kernel
theorem dX5_shapesOf_39 : decode cX5_shapesOf 39 = .ok (.iconst 0, 1) := by decide +kernel
theorem dX5_shapesOf_40 : decode cX5_shapesOf 40 = .ok (.iadd, 1) := by decide +kernel
theorem dX5_shapesOf_41 : decode cX5_shapesOf 41 = .ok (.istore_n 3, 1) := by decide +kernel
theorem dX5_shapesOf_42 : decode cX5_shapesOf 42 = .ok (.iinc 4 1, 3) := by decide +kernel
theorem dX5_shapesOf_45 : decode cX5_shapesOf 45 = .ok (.goto (-40), 3) := by decide +kernel
theorem dX5_shapesOf_48 : decode cX5_shapesOf 48 = .ok (.iload_n 3, 1) := by decide +kernel
theorem dX5_shapesOf_49 : decode cX5_shapesOf 49 = .ok (.ireturn, 1) := by decide +kernel
set_option maxRecDepth 20000 in
theorem ggX5_onlyNumber_X5_fits : GoodIn wsX5_onlyNumber wsX5_fits := goodIn_r _ [5, 6, 7, 8, 9, 4, 10, 11, 12, 13, 14, 15, 16, 17, 18, 19, 20, 21, 22, 23, 24, 25, 26, 27, 28, 29, 30, 31, 32, 33, 34, 35, 36, 37, 38, 39, 40, 41, 42, 43, 44, 45, 46, 47, 48, 49, 50, 51, 52, 53] (by decide +kernel) (by decide +kernel)
set_option maxRecDepth 20000 in
theorem gX5_onlyNumber_X5_fits : GoodIn wsX5_onlyNumber (wsV RX5 102 RX5 yX5_fits wsX5_fits) := goodIn_app (goodIn_of _ (by decide +kernel)) ggX5_onlyNumber_X5_fits
theorem dX5_onlyNumber_0 : decode cX5_onlyNumber 0 = .ok (.iconst 0, 1) := by decide +kernel
theorem dX5_onlyNumber_1 : decode cX5_onlyNumber 1 = .ok (.istore_n 2, 1) := by decide +kernel
theorem dX5_onlyNumber_2 : decode cX5_onlyNumber 2 = .ok (.iconst 0, 1) := by decide +kernel
theorem dX5_onlyNumber_3 : decode cX5_onlyNumber 3 = .ok (.istore_n 3, 1) := by decide +kernel
theorem dX5_onlyNumber_4 : decode cX5_onlyNumber 4 = .ok (.iconst 1, 1) := by decide +kernel
theorem dX5_onlyNumber_5 : decode cX5_onlyNumber 5 = .ok (.istore 4, 2) := by decide +kernel
theorem dX5_onlyNumber_7 : decode cX5_onlyNumber 7 = .ok (.iload 4, 2) := by decide +kernel
theorem dX5_onlyNumber_9 : decode cX5_onlyNumber 9 = .ok (.bipush 9, 2) := by decide +kernel
theorem dX5_onlyNumber_11 : decode cX5_onlyNumber 11 = .ok (.if_icmp .gt 43, 3) := by decide +kernel
theorem dX5_onlyNumber_14 : decode cX5_onlyNumber 14 = .ok (.aload_n 0, 1) := by decide +kernel
theorem dX5_onlyNumber_15 : decode cX5_onlyNumber 15 = .ok (.iload_n 1, 1) := by decide +kernel
theorem dX5_onlyNumber_16 : decode cX5_onlyNumber 16 = .ok (.iload 4, 2) := by decide +kernel
theorem dX5_onlyNumber_18 : decode cX5_onlyNumber 18 = .ok (.invokevirtual 102, 3) := by decide +kernel
theorem dX5_onlyNumber_21 : decode cX5_onlyNumber 21 = .ok (.istore 5, 2) := by decide +kernel
theorem dX5_onlyNumber_23 : decode cX5_onlyNumber 23 = .ok (.iload 5, 2) := by decide +kernel
theorem dX5_onlyNumber_25 : decode cX5_onlyNumber 25 = .ok (.ifCond .eq 8, 3) := by decide +kernel
theorem dX5_onlyNumber_28 : decode cX5_onlyNumber 28 = .ok (.iload 4, 2) := by decide +kernel
theorem dX5_onlyNumber_30 : decode cX5_onlyNumber 30 = .ok (.goto 4, 3) := by decide +kernel
theorem dX5_onlyNumber_33 : decode cX5_onlyNumber 33 = .ok (.iload_n 2, 1) := by decide +kernel
theorem dX5_onlyNumber_34 : decode cX5_onlyNumber 34 = .ok (.istore_n 2, 1) := by decide +kernel
theorem dX5_onlyNumber_35 : decode cX5_onlyNumber 35 = .ok (.iload_n 3, 1) := by decide +kernel
theorem dX5_onlyNumber_36 : decode cX5_onlyNumber 36 = .ok (.iload 5, 2) := by decide +kernel
theorem dX5_onlyNumber_38 : decode cX5_onlyNumber 38 = .ok (.ifCond .eq 7, 3) := by decide +kernel
theorem dX5_onlyNumber_41 : decode cX5_onlyNumber 41 = .ok (.iconst 1, 1) := by decide +kernel
theorem dX5_onlyNumber_42 : decode cX5_onlyNumber 42 = .ok (.goto 4, 3) := by decide +kernel
theorem dX5_onlyNumber_45 : decode cX5_onlyNumber 45 = .ok (.iconst 0, 1) := by decide +kernel
theorem dX5_onlyNumber_46 : decode cX5_onlyNumber 46 = .ok (.iadd, 1) := by decide +kernel
theorem dX5_onlyNumber_47 : decode cX5_onlyNumber 47 = .ok (.istore_n 3, 1) := by decide +kernel
theorem dX5_onlyNumber_48 : decode cX5_onlyNumber 48 = .ok (.iinc 4 1, 3) := by decide +kernel
theorem dX5_onlyNumber_51 : decode cX5_onlyNumber 51 = .ok (.goto (-44), 3) := by decide +kernel
theorem dX5_onlyNumber_54 : decode cX5_onlyNumber 54 = .ok (.iload_n 3, 1) := by decide +kernel
theorem dX5_onlyNumber_55 : decode cX5_onlyNumber 55 = .ok (.iconst 1, 1) := by decide +kernel
theorem dX5_onlyNumber_56 : decode cX5_onlyNumber 56 = .ok (.if_icmp .ne 7, 3) := by decide +kernel
theorem dX5_onlyNumber_59 : decode cX5_onlyNumber 59 = .ok (.iload_n 2, 1) := by decide +kernel
theorem dX5_onlyNumber_60 : decode cX5_onlyNumber 60 = .ok (.goto 4, 3) := by decide +kernel
theorem dX5_onlyNumber_63 : decode cX5_onlyNumber 63 = .ok (.iconst 0, 1) := by decide +kernel
theorem dX5_onlyNumber_64 : decode cX5_onlyNumber 64 = .ok (.ireturn, 1) := by decide +kernel
set_option maxRecDepth 20000 in
theorem ggX5_shapedNumber_X5_cells : GoodIn wsX5_shapedNumber wsX5_cells := goodIn_r _ [6, 7, 8, 49, 50, 51, 52, 53, 54, 55, 56, 57, 58, 59, 60, 61] (by decide +kernel) (by decide +kernel)
set_option maxRecDepth 20000 in
theorem gX5_shapedNumber_X5_cells : GoodIn wsX5_shapedNumber (wsV RX5 41 RX5 yX5_cells wsX5_cells) := goodIn_app (goodIn_of _ (by decide +kernel)) ggX5_shapedNumber_X5_cells
set_option maxRecDepth 20000 in
theorem ggX5_shapedNumber_X5_fieldOf : GoodIn wsX5_shapedNumber wsX5_fieldOf := goodIn_r _ [12, 13, 1, 14, 15, 16, 5, 17, 18, 19, 20, 21, 7, 8, 2, 3, 4, 6, 49, 50, 51, 52, 53, 54, 55, 56, 57, 58, 59, 60, 61] (by decide +kernel) (by decide +kernel)
set_option maxRecDepth 20000 in
theorem gX5_shapedNumber_X5_fieldOf : GoodIn wsX5_shapedNumber (wsV RX5 63 RX5 yX5_fieldOf wsX5_fieldOf) := goodIn_app (goodIn_of _ (by decide +kernel)) ggX5_shapedNumber_X5_fieldOf
set_option maxRecDepth 20000 in
theorem ggX5_shapedNumber_X5_count : GoodIn wsX5_shapedNumber wsX5_count := goodIn_r _ [24] (by decide +kernel) (by decide +kernel)
set_option maxRecDepth 20000 in
theorem gX5_shapedNumber_X5_count : GoodIn wsX5_shapedNumber (va_wsS RX5 57 yX5_count wsX5_count) := goodIn_app (goodIn_of _ (by decide +kernel)) ggX5_shapedNumber_X5_count
set_option maxRecDepth 20000 in
theorem ggX5_shapedNumber_X5_fits : GoodIn wsX5_shapedNumber wsX5_fits := goodIn_r _ [28, 1, 29, 30, 31, 5, 32, 33, 34, 35, 36, 13, 2, 3, 4, 6, 7, 8, 9, 10, 11, 12, 14, 15, 16, 17, 18, 19, 20, 21, 22, 23, 24, 37, 38, 39, 40, 49, 50, 51, 52, 53, 54, 55, 56, 57, 58, 59, 60, 61] (by decide +kernel) (by decide +kernel)
set_option maxRecDepth 20000 in
theorem gX5_shapedNumber_X5_fits : GoodIn wsX5_shapedNumber (wsV RX5 102 RX5 yX5_fits wsX5_fits) := goodIn_app (goodIn_of _ (by decide +kernel)) ggX5_shapedNumber_X5_fits
set_option maxRecDepth 20000 in
theorem ggX5_shapedNumber_X5_shapesOf : GoodIn wsX5_shapedNumber wsX5_shapesOf := goodIn_r _ [44, 2, 3, 4, 5, 6, 7, 8, 45, 46, 47, 48, 1, 13, 22, 23, 24, 9, 10, 11, 12, 14, 15, 16, 17, 18, 19, 20, 21, 49, 50, 51, 52, 53, 54, 55, 56, 57, 58, 59, 60, 61] (by decide +kernel) (by decide +kernel)
set_option maxRecDepth 20000 in
theorem gX5_shapedNumber_X5_shapesOf : GoodIn wsX5_shapedNumber (wsV RX5 131 RX5 yX5_shapesOf wsX5_shapesOf) := goodIn_app (goodIn_of _ (by decide +kernel)) ggX5_shapedNumber_X5_shapesOf
theorem dX5_shapedNumber_0 : decode cX5_shapedNumber 0 = .ok (.iconst 0, 1) := by decide +kernel
theorem dX5_shapedNumber_1 : decode cX5_shapedNumber 1 = .ok (.istore_n 2, 1) := by decide +kernel
theorem dX5_shapedNumber_2 : decode cX5_shapedNumber 2 = .ok (.aload_n 0, 1) := by decide +kernel
theorem dX5_shapedNumber_3 : decode cX5_shapedNumber 3 = .ok (.invokevirtual 41, 3) := by decide +kernel
theorem dX5_shapedNumber_6 : decode cX5_shapedNumber 6 = .ok (.iconst 1, 1) := by decide +kernel
theorem dX5_shapedNumber_7 : decode cX5_shapedNumber 7 = .ok (.isub, 1) := by decide +kernel
theorem dX5_shapedNumber_8 : decode cX5_shapedNumber 8 = .ok (.istore_n 3, 1) := by decide +kernel
theorem dX5_shapedNumber_9 : decode cX5_shapedNumber 9 = .ok (.iload_n 3, 1) := by decide +kernel
theorem dX5_shapedNumber_10 : decode cX5_shapedNumber 10 = .ok (.ifCond .lt 104, 3) := by decide +kernel
theorem dX5_shapedNumber_13 : decode cX5_shapedNumber 13 = .ok (.iconst 1, 1) := by decide +kernel
theorem dX5_shapedNumber_14 : decode cX5_shapedNumber 14 = .ok (.iload_n 3, 1) := by decide +kernel
theorem dX5_shapedNumber_15 : decode cX5_shapedNumber 15 = .ok (.ishl, 1) := by decide +kernel
theorem dX5_shapedNumber_16 : decode cX5_shapedNumber 16 = .ok (.iconst 1, 1) := by decide +kernel
theorem dX5_shapedNumber_17 : decode cX5_shapedNumber 17 = .ok (.isub, 1) := by decide +kernel
theorem dX5_shapedNumber_18 : decode cX5_shapedNumber 18 = .ok (.istore 4, 2) := by decide +kernel
theorem dX5_shapedNumber_20 : decode cX5_shapedNumber 20 = .ok (.aload_n 0, 1) := by decide +kernel
theorem dX5_shapedNumber_21 : decode cX5_shapedNumber 21 = .ok (.getfield 16, 3) := by decide +kernel
theorem dX5_shapedNumber_24 : decode cX5_shapedNumber 24 = .ok (.iload_n 3, 1) := by decide +kernel
theorem dX5_shapedNumber_25 : decode cX5_shapedNumber 25 = .ok (.iaload, 1) := by decide +kernel
theorem dX5_shapedNumber_26 : decode cX5_shapedNumber 26 = .ok (.ifCond .le 82, 3) := by decide +kernel
theorem dX5_shapedNumber_29 : decode cX5_shapedNumber 29 = .ok (.aload_n 0, 1) := by decide +kernel
theorem dX5_shapedNumber_30 : decode cX5_shapedNumber 30 = .ok (.iload_n 3, 1) := by decide +kernel
theorem dX5_shapedNumber_31 : decode cX5_shapedNumber 31 = .ok (.invokevirtual 63, 3) := by decide +kernel
theorem dX5_shapedNumber_34 : decode cX5_shapedNumber 34 = .ok (.invokestatic 57, 3) := by decide +kernel
theorem dX5_shapedNumber_37 : decode cX5_shapedNumber 37 = .ok (.aload_n 0, 1) := by decide +kernel
theorem dX5_shapedNumber_38 : decode cX5_shapedNumber 38 = .ok (.getfield 16, 3) := by decide +kernel
theorem dX5_shapedNumber_41 : decode cX5_shapedNumber 41 = .ok (.iload_n 3, 1) := by decide +kernel
theorem dX5_shapedNumber_42 : decode cX5_shapedNumber 42 = .ok (.iaload, 1) := by decide +kernel
theorem dX5_shapedNumber_43 : decode cX5_shapedNumber 43 = .ok (.if_icmp .ge 65, 3) := by decide +kernel
theorem dX5_shapedNumber_46 : decode cX5_shapedNumber 46 = .ok (.aload_n 0, 1) := by decide +kernel
theorem dX5_shapedNumber_47 : decode cX5_shapedNumber 47 = .ok (.iload_n 3, 1) := by decide +kernel
theorem dX5_shapedNumber_48 : decode cX5_shapedNumber 48 = .ok (.invokevirtual 63, 3) := by decide +kernel
theorem dX5_shapedNumber_51 : decode cX5_shapedNumber 51 = .ok (.iload 4, 2) := by decide +kernel
theorem dX5_shapedNumber_53 : decode cX5_shapedNumber 53 = .ok (.iand, 1) := by decide +kernel
theorem dX5_shapedNumber_54 : decode cX5_shapedNumber 54 = .ok (.ifCond .ne 54, 3) := by decide +kernel
theorem dX5_shapedNumber_57 : decode cX5_shapedNumber 57 = .ok (.aload_n 0, 1) := by decide +kernel
theorem dX5_shapedNumber_58 : decode cX5_shapedNumber 58 = .ok (.iload_n 1, 1) := by decide +kernel
theorem dX5_shapedNumber_59 : decode cX5_shapedNumber 59 = .ok (.aload_n 0, 1) := by decide +kernel
theorem dX5_shapedNumber_60 : decode cX5_shapedNumber 60 = .ok (.getfield 16, 3) := by decide +kernel
theorem dX5_shapedNumber_63 : decode cX5_shapedNumber 63 = .ok (.iload_n 3, 1) := by decide +kernel
theorem dX5_shapedNumber_64 : decode cX5_shapedNumber 64 = .ok (.iaload, 1) := by decide +kernel
theorem dX5_shapedNumber_65 : decode cX5_shapedNumber 65 = .ok (.invokevirtual 102, 3) := by decide +kernel
theorem dX5_shapedNumber_68 : decode cX5_shapedNumber 68 = .ok (.ifCond .eq 40, 3) := by decide +kernel
theorem dX5_shapedNumber_71 : decode cX5_shapedNumber 71 = .ok (.aload_n 0, 1) := by decide +kernel
theorem dX5_shapedNumber_72 : decode cX5_shapedNumber 72 = .ok (.iload_n 3, 1) := by decide +kernel
theorem dX5_shapedNumber_73 : decode cX5_shapedNumber 73 = .ok (.iconst 0, 1) := by decide +kernel
theorem dX5_shapedNumber_74 : decode cX5_shapedNumber 74 = .ok (.invokevirtual 131, 3) := by decide +kernel
theorem dX5_shapedNumber_77 : decode cX5_shapedNumber 77 = .ok (.istore 5, 2) := by decide +kernel
theorem dX5_shapedNumber_79 : decode cX5_shapedNumber 79 = .ok (.iload 5, 2) := by decide +kernel
theorem dX5_shapedNumber_81 : decode cX5_shapedNumber 81 = .ok (.ifCond .le 25, 3) := by decide +kernel
theorem dX5_shapedNumber_84 : decode cX5_shapedNumber 84 = .ok (.aload_n 0, 1) := by decide +kernel
theorem dX5_shapedNumber_85 : decode cX5_shapedNumber 85 = .ok (.iload_n 3, 1) := by decide +kernel
theorem dX5_shapedNumber_86 : decode cX5_shapedNumber 86 = .ok (.iconst 1, 1) := by decide +kernel
theorem dX5_shapedNumber_87 : decode cX5_shapedNumber 87 = .ok (.iload_n 1, 1) := by decide +kernel
theorem dX5_shapedNumber_88 : decode cX5_shapedNumber 88 = .ok (.ishl, 1) := by decide +kernel
theorem dX5_shapedNumber_89 : decode cX5_shapedNumber 89 = .ok (.invokevirtual 131, 3) := by decide +kernel
theorem dX5_shapedNumber_92 : decode cX5_shapedNumber 92 = .ok (.iload 5, 2) := by decide +kernel
theorem dX5_shapedNumber_94 : decode cX5_shapedNumber 94 = .ok (.if_icmp .ne 12, 3) := by decide +kernel
theorem dX5_shapedNumber_97 : decode cX5_shapedNumber 97 = .ok (.aload_n 0, 1) := by decide +kernel
theorem dX5_shapedNumber_98 : decode cX5_shapedNumber 98 = .ok (.getfield 16, 3) := by decide +kernel
theorem dX5_shapedNumber_101 : decode cX5_shapedNumber 101 = .ok (.iload_n 3, 1) := by decide +kernel
theorem dX5_shapedNumber_102 : decode cX5_shapedNumber 102 = .ok (.iaload, 1) := by decide +kernel
theorem dX5_shapedNumber_103 : decode cX5_shapedNumber 103 = .ok (.goto 4, 3) := by decide +kernel
theorem dX5_shapedNumber_106 : decode cX5_shapedNumber 106 = .ok (.iload_n 2, 1) := by decide +kernel
theorem dX5_shapedNumber_107 : decode cX5_shapedNumber 107 = .ok (.istore_n 2, 1) := by decide +kernel
theorem dX5_shapedNumber_108 : decode cX5_shapedNumber 108 = .ok (.iinc 3 (-1), 3) := by decide +kernel
theorem dX5_shapedNumber_111 : decode cX5_shapedNumber 111 = .ok (.goto (-102), 3) := by decide +kernel
theorem dX5_shapedNumber_114 : decode cX5_shapedNumber 114 = .ok (.iload_n 2, 1) := by decide +kernel
theorem dX5_shapedNumber_115 : decode cX5_shapedNumber 115 = .ok (.ireturn, 1) := by decide +kernel
set_option maxRecDepth 20000 in
theorem ggX5_reaches_X5_fieldOf : GoodIn wsX5_reaches wsX5_fieldOf := goodIn_r _ [7, 2, 1, 8, 9, 10, 6, 11, 12, 13, 14, 15, 16, 17, 18, 19, 20, 21, 28, 29, 30, 31, 32, 33, 34, 35, 36, 37, 38, 39, 40] (by decide +kernel) (by decide +kernel)
set_option maxRecDepth 20000 in
theorem gX5_reaches_X5_fieldOf : GoodIn wsX5_reaches (wsV RX5 63 RX5 yX5_fieldOf wsX5_fieldOf) := goodIn_app (goodIn_of _ (by decide +kernel)) ggX5_reaches_X5_fieldOf
set_option maxRecDepth 20000 in
theorem ggX5_reaches_X5_count : GoodIn wsX5_reaches wsX5_count := goodIn_r _ [24] (by decide +kernel) (by decide +kernel)
set_option maxRecDepth 20000 in
theorem gX5_reaches_X5_count : GoodIn wsX5_reaches (va_wsS RX5 57 yX5_count wsX5_count) := goodIn_app (goodIn_of _ (by decide +kernel)) ggX5_reaches_X5_count
set_option maxRecDepth 20000 in
theorem ggX5_reaches_X5_beside : GoodIn wsX5_reaches wsX5_beside := goodIn_r _ [15, 16, 17, 18, 19, 20, 6, 21, 28, 29, 30, 31, 32, 33, 34, 35, 36, 37, 38, 39, 40] (by decide +kernel) (by decide +kernel)
set_option maxRecDepth 20000 in
theorem gX5_reaches_X5_beside : GoodIn wsX5_reaches (wsV RX5 49 RX5 yX5_beside wsX5_beside) := goodIn_app (goodIn_of _ (by decide +kernel)) ggX5_reaches_X5_beside
set_option maxRecDepth 20000 in
theorem ggX5_reaches_X5_has : GoodIn wsX5_reaches wsX5_has := goodIn_r _ [27] (by decide +kernel) (by decide +kernel)
set_option maxRecDepth 20000 in
theorem gX5_reaches_X5_has : GoodIn wsX5_reaches (va_wsS RX5 83 yX5_has wsX5_has) := goodIn_app (goodIn_of _ (by decide +kernel)) ggX5_reaches_X5_has
theorem dX5_reaches_0 : decode cX5_reaches 0 = .ok (.aload_n 0, 1) := by decide +kernel
theorem dX5_reaches_1 : decode cX5_reaches 1 = .ok (.iload_n 1, 1) := by decide +kernel
theorem dX5_reaches_2 : decode cX5_reaches 2 = .ok (.invokevirtual 63, 3) := by decide +kernel
theorem dX5_reaches_5 : decode cX5_reaches 5 = .ok (.istore_n 3, 1) := by decide +kernel
theorem dX5_reaches_6 : decode cX5_reaches 6 = .ok (.iload_n 3, 1) := by decide +kernel
theorem dX5_reaches_7 : decode cX5_reaches 7 = .ok (.istore 4, 2) := by decide +kernel
theorem dX5_reaches_9 : decode cX5_reaches 9 = .ok (.iload_n 3, 1) := by decide +kernel
theorem dX5_reaches_10 : decode cX5_reaches 10 = .ok (.invokestatic 57, 3) := by decide +kernel
theorem dX5_reaches_13 : decode cX5_reaches 13 = .ok (.istore 5, 2) := by decide +kernel
theorem dX5_reaches_15 : decode cX5_reaches 15 = .ok (.iload 5, 2) := by decide +kernel
theorem dX5_reaches_17 : decode cX5_reaches 17 = .ok (.aload_n 0, 1) := by decide +kernel
theorem dX5_reaches_18 : decode cX5_reaches 18 = .ok (.getfield 16, 3) := by decide +kernel
theorem dX5_reaches_21 : decode cX5_reaches 21 = .ok (.iload_n 1, 1) := by decide +kernel
theorem dX5_reaches_22 : decode cX5_reaches 22 = .ok (.iaload, 1) := by decide +kernel
theorem dX5_reaches_23 : decode cX5_reaches 23 = .ok (.if_icmp .ge 27, 3) := by decide +kernel
theorem dX5_reaches_26 : decode cX5_reaches 26 = .ok (.iload 4, 2) := by decide +kernel
theorem dX5_reaches_28 : decode cX5_reaches 28 = .ok (.aload_n 0, 1) := by decide +kernel
theorem dX5_reaches_29 : decode cX5_reaches 29 = .ok (.iload 4, 2) := by decide +kernel
theorem dX5_reaches_31 : decode cX5_reaches 31 = .ok (.invokevirtual 49, 3) := by decide +kernel
theorem dX5_reaches_34 : decode cX5_reaches 34 = .ok (.aload_n 0, 1) := by decide +kernel
theorem dX5_reaches_35 : decode cX5_reaches 35 = .ok (.getfield 23, 3) := by decide +kernel
theorem dX5_reaches_38 : decode cX5_reaches 38 = .ok (.iconst 0, 1) := by decide +kernel
theorem dX5_reaches_39 : decode cX5_reaches 39 = .ok (.iaload, 1) := by decide +kernel
theorem dX5_reaches_40 : decode cX5_reaches 40 = .ok (.iand, 1) := by decide +kernel
theorem dX5_reaches_41 : decode cX5_reaches 41 = .ok (.ior, 1) := by decide +kernel
theorem dX5_reaches_42 : decode cX5_reaches 42 = .ok (.istore 4, 2) := by decide +kernel
theorem dX5_reaches_44 : decode cX5_reaches 44 = .ok (.iinc 5 1, 3) := by decide +kernel
theorem dX5_reaches_47 : decode cX5_reaches 47 = .ok (.goto (-32), 3) := by decide +kernel
theorem dX5_reaches_50 : decode cX5_reaches 50 = .ok (.iload 4, 2) := by decide +kernel
theorem dX5_reaches_52 : decode cX5_reaches 52 = .ok (.iload_n 2, 1) := by decide +kernel
theorem dX5_reaches_53 : decode cX5_reaches 53 = .ok (.invokestatic 83, 3) := by decide +kernel
theorem dX5_reaches_56 : decode cX5_reaches 56 = .ok (.ireturn, 1) := by decide +kernel
set_option maxRecDepth 20000 in
theorem ggX5_hides_X5_cells : GoodIn wsX5_hides wsX5_cells := goodIn_r _ [6, 7, 8, 32, 33, 34, 35, 36, 37, 38, 39, 40, 41, 42, 43, 44] (by decide +kernel) (by decide +kernel)
set_option maxRecDepth 20000 in
theorem gX5_hides_X5_cells : GoodIn wsX5_hides (wsV RX5 41 RX5 yX5_cells wsX5_cells) := goodIn_app (goodIn_of _ (by decide +kernel)) ggX5_hides_X5_cells
set_option maxRecDepth 20000 in
theorem ggX5_hides_X5_reaches : GoodIn wsX5_hides wsX5_reaches := goodIn_r _ [12, 1, 13, 14, 15, 16, 5, 17, 18, 19, 20, 21, 22, 23, 24, 25, 7, 8, 2, 3, 4, 6, 26, 27, 28, 29, 30, 31, 32, 33, 34, 35, 36, 37, 38, 39, 40, 41, 42, 43, 44] (by decide +kernel) (by decide +kernel)
set_option maxRecDepth 20000 in
theorem gX5_hides_X5_reaches : GoodIn wsX5_hides (wsV RX5 134 RX5 yX5_reaches wsX5_reaches) := goodIn_app (goodIn_of _ (by decide +kernel)) ggX5_hides_X5_reaches
theorem dX5_hides_0 : decode cX5_hides 0 = .ok (.aload_n 0, 1) := by decide +kernel
theorem dX5_hides_1 : decode cX5_hides 1 = .ok (.getfield 16, 3) := by decide +kernel
theorem dX5_hides_4 : decode cX5_hides 4 = .ok (.iload_n 1, 1) := by decide +kernel
theorem dX5_hides_5 : decode cX5_hides 5 = .ok (.iaload, 1) := by decide +kernel
theorem dX5_hides_6 : decode cX5_hides 6 = .ok (.ifCond .ne 7, 3) := by decide +kernel
theorem dX5_hides_9 : decode cX5_hides 9 = .ok (.iconst 1, 1) := by decide +kernel
theorem dX5_hides_10 : decode cX5_hides 10 = .ok (.goto 4, 3) := by decide +kernel
theorem dX5_hides_13 : decode cX5_hides 13 = .ok (.iconst 0, 1) := by decide +kernel
theorem dX5_hides_14 : decode cX5_hides 14 = .ok (.istore_n 2, 1) := by decide +kernel
theorem dX5_hides_15 : decode cX5_hides 15 = .ok (.iconst 0, 1) := by decide +kernel
theorem dX5_hides_16 : decode cX5_hides 16 = .ok (.istore_n 3, 1) := by decide +kernel
theorem dX5_hides_17 : decode cX5_hides 17 = .ok (.iload_n 3, 1) := by decide +kernel
theorem dX5_hides_18 : decode cX5_hides 18 = .ok (.aload_n 0, 1) := by decide +kernel
theorem dX5_hides_19 : decode cX5_hides 19 = .ok (.invokevirtual 41, 3) := by decide +kernel
theorem dX5_hides_22 : decode cX5_hides 22 = .ok (.if_icmp .ge 37, 3) := by decide +kernel
theorem dX5_hides_25 : decode cX5_hides 25 = .ok (.iload_n 2, 1) := by decide +kernel
theorem dX5_hides_26 : decode cX5_hides 26 = .ok (.ifCond .eq 33, 3) := by decide +kernel
theorem dX5_hides_29 : decode cX5_hides 29 = .ok (.aload_n 0, 1) := by decide +kernel
theorem dX5_hides_30 : decode cX5_hides 30 = .ok (.getfield 16, 3) := by decide +kernel
theorem dX5_hides_33 : decode cX5_hides 33 = .ok (.iload_n 3, 1) := by decide +kernel
theorem dX5_hides_34 : decode cX5_hides 34 = .ok (.iaload, 1) := by decide +kernel
theorem dX5_hides_35 : decode cX5_hides 35 = .ok (.ifCond .eq 12, 3) := by decide +kernel
theorem dX5_hides_38 : decode cX5_hides 38 = .ok (.aload_n 0, 1) := by decide +kernel
theorem dX5_hides_39 : decode cX5_hides 39 = .ok (.iload_n 3, 1) := by decide +kernel
theorem dX5_hides_40 : decode cX5_hides 40 = .ok (.iload_n 1, 1) := by decide +kernel
theorem dX5_hides_41 : decode cX5_hides 41 = .ok (.invokevirtual 134, 3) := by decide +kernel
theorem dX5_hides_44 : decode cX5_hides 44 = .ok (.ifCond .ne 7, 3) := by decide +kernel
theorem dX5_hides_47 : decode cX5_hides 47 = .ok (.iconst 1, 1) := by decide +kernel
theorem dX5_hides_48 : decode cX5_hides 48 = .ok (.goto 4, 3) := by decide +kernel
theorem dX5_hides_51 : decode cX5_hides 51 = .ok (.iconst 0, 1) := by decide +kernel
theorem dX5_hides_52 : decode cX5_hides 52 = .ok (.istore_n 2, 1) := by decide +kernel
theorem dX5_hides_53 : decode cX5_hides 53 = .ok (.iinc 3 1, 3) := by decide +kernel
theorem dX5_hides_56 : decode cX5_hides 56 = .ok (.goto (-39), 3) := by decide +kernel
theorem dX5_hides_59 : decode cX5_hides 59 = .ok (.iload_n 2, 1) := by decide +kernel
theorem dX5_hides_60 : decode cX5_hides 60 = .ok (.ireturn, 1) := by decide +kernel
set_option maxRecDepth 20000 in
theorem ggX5_hiddenNumber_X5_hides : GoodIn wsX5_hiddenNumber wsX5_hides := goodIn_r _ [6, 7, 8, 9, 10, 5, 11, 12, 13, 14, 15, 16, 17, 1, 18, 19, 20, 21, 22, 23, 24, 25, 26, 27, 28, 29, 30, 31, 32, 33, 34, 35, 52, 53, 54, 55, 56, 57, 58, 59, 60, 61, 62, 63, 64] (by decide +kernel) (by decide +kernel)
set_option maxRecDepth 20000 in
theorem gX5_hiddenNumber_X5_hides : GoodIn wsX5_hiddenNumber (wsV RX5 137 RX5 yX5_hides wsX5_hides) := goodIn_app (goodIn_of _ (by decide +kernel)) ggX5_hiddenNumber_X5_hides
set_option maxRecDepth 20000 in
theorem ggX5_hiddenNumber_X5_beside : GoodIn wsX5_hiddenNumber wsX5_beside := goodIn_r _ [29, 12, 13, 8, 9, 10, 5, 11, 52, 53, 54, 55, 56, 57, 58, 59, 60, 61, 62, 63, 64] (by decide +kernel) (by decide +kernel)
set_option maxRecDepth 20000 in
theorem gX5_hiddenNumber_X5_beside : GoodIn wsX5_hiddenNumber (wsV RX5 49 RX5 yX5_beside wsX5_beside) := goodIn_app (goodIn_of _ (by decide +kernel)) ggX5_hiddenNumber_X5_beside
set_option maxRecDepth 20000 in
theorem ggX5_hiddenNumber_X5_fits : GoodIn wsX5_hiddenNumber wsX5_fits := goodIn_r _ [39, 7, 40, 41, 42, 5, 43, 44, 45, 46, 47, 1, 8, 9, 10, 11, 12, 13, 18, 19, 20, 21, 22, 23, 24, 25, 26, 27, 28, 29, 30, 31, 32, 48, 49, 50, 51, 52, 53, 54, 55, 56, 57, 58, 59, 60, 61, 62, 63, 64] (by decide +kernel) (by decide +kernel)
set_option maxRecDepth 20000 in
theorem gX5_hiddenNumber_X5_fits : GoodIn wsX5_hiddenNumber (wsV RX5 102 RX5 yX5_fits wsX5_fits) := goodIn_app (goodIn_of _ (by decide +kernel)) ggX5_hiddenNumber_X5_fits
theorem dX5_hiddenNumber_0 : decode cX5_hiddenNumber 0 = .ok (.aload_n 0, 1) := by decide +kernel
theorem dX5_hiddenNumber_1 : decode cX5_hiddenNumber 1 = .ok (.iload_n 1, 1) := by decide +kernel
theorem dX5_hiddenNumber_2 : decode cX5_hiddenNumber 2 = .ok (.invokevirtual 137, 3) := by decide +kernel
theorem dX5_hiddenNumber_5 : decode cX5_hiddenNumber 5 = .ok (.ifCond .eq 33, 3) := by decide +kernel
theorem dX5_hiddenNumber_8 : decode cX5_hiddenNumber 8 = .ok (.aload_n 0, 1) := by decide +kernel
theorem dX5_hiddenNumber_9 : decode cX5_hiddenNumber 9 = .ok (.iconst 1, 1) := by decide +kernel
theorem dX5_hiddenNumber_10 : decode cX5_hiddenNumber 10 = .ok (.iload_n 1, 1) := by decide +kernel
theorem dX5_hiddenNumber_11 : decode cX5_hiddenNumber 11 = .ok (.ishl, 1) := by decide +kernel
theorem dX5_hiddenNumber_12 : decode cX5_hiddenNumber 12 = .ok (.invokevirtual 49, 3) := by decide +kernel
theorem dX5_hiddenNumber_15 : decode cX5_hiddenNumber 15 = .ok (.aload_n 0, 1) := by decide +kernel
theorem dX5_hiddenNumber_16 : decode cX5_hiddenNumber 16 = .ok (.getfield 23, 3) := by decide +kernel
theorem dX5_hiddenNumber_19 : decode cX5_hiddenNumber 19 = .ok (.iconst 0, 1) := by decide +kernel
theorem dX5_hiddenNumber_20 : decode cX5_hiddenNumber 20 = .ok (.iaload, 1) := by decide +kernel
theorem dX5_hiddenNumber_21 : decode cX5_hiddenNumber 21 = .ok (.iand, 1) := by decide +kernel
