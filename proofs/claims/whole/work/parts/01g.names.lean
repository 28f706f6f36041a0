theorem dX5_hiddenNumber_22 : decode cX5_hiddenNumber 22 = .ok (.ifCond .ne 16, 3) := by decide +kernel
theorem dX5_hiddenNumber_25 : decode cX5_hiddenNumber 25 = .ok (.aload_n 0, 1) := by decide +kernel
theorem dX5_hiddenNumber_26 : decode cX5_hiddenNumber 26 = .ok (.iload_n 1, 1) := by decide +kernel
theorem dX5_hiddenNumber_27 : decode cX5_hiddenNumber 27 = .ok (.iconst 1, 1) := by decide +kernel
theorem dX5_hiddenNumber_28 : decode cX5_hiddenNumber 28 = .ok (.invokevirtual 102, 3) := by decide +kernel
theorem dX5_hiddenNumber_31 : decode cX5_hiddenNumber 31 = .ok (.ifCond .eq 7, 3) := by decide +kernel
theorem dX5_hiddenNumber_34 : decode cX5_hiddenNumber 34 = .ok (.iconst 1, 1) := by decide +kernel
theorem dX5_hiddenNumber_35 : decode cX5_hiddenNumber 35 = .ok (.goto 4, 3) := by decide +kernel
theorem dX5_hiddenNumber_38 : decode cX5_hiddenNumber 38 = .ok (.iconst 0, 1) := by decide +kernel
theorem dX5_hiddenNumber_39 : decode cX5_hiddenNumber 39 = .ok (.ireturn, 1) := by decide +kernel
set_option maxRecDepth 20000 in
theorem ggX5_run_X5_isIn : GoodIn wsX5_run wsX5_isIn := goodIn_r _ [5] (by decide +kernel) (by decide +kernel)
set_option maxRecDepth 20000 in
theorem gX5_run_X5_isIn : GoodIn wsX5_run (va_wsS RX5 45 yX5_isIn wsX5_isIn) := goodIn_app (goodIn_of _ (by decide +kernel)) ggX5_run_X5_isIn
set_option maxRecDepth 20000 in
theorem ggX5_run_X5_can : GoodIn wsX5_run wsX5_can := goodIn_r _ [9, 10, 86, 87, 88, 89, 90, 91, 92, 93, 94, 95, 96, 97, 98] (by decide +kernel) (by decide +kernel)
set_option maxRecDepth 20000 in
theorem gX5_run_X5_can : GoodIn wsX5_run (wsV RX5 76 RX5 yX5_can wsX5_can) := goodIn_app (goodIn_of _ (by decide +kernel)) ggX5_run_X5_can
set_option maxRecDepth 20000 in
theorem ggX5_run_X5_looks : GoodIn wsX5_run wsX5_looks := goodIn_r _ [14, 15, 1, 16, 17, 18, 4, 19, 20, 21, 86, 87, 88, 89, 90, 91, 92, 93, 94, 95, 96, 97, 98] (by decide +kernel) (by decide +kernel)
set_option maxRecDepth 20000 in
theorem gX5_run_X5_looks : GoodIn wsX5_run (wsV RX5 60 RX5 yX5_looks wsX5_looks) := goodIn_app (goodIn_of _ (by decide +kernel)) ggX5_run_X5_looks
set_option maxRecDepth 20000 in
theorem ggX5_run_X5_cells : GoodIn wsX5_run wsX5_cells := goodIn_r _ [19, 20, 21, 86, 87, 88, 89, 90, 91, 92, 93, 94, 95, 96, 97, 98] (by decide +kernel) (by decide +kernel)
set_option maxRecDepth 20000 in
theorem gX5_run_X5_cells : GoodIn wsX5_run (wsV RX5 41 RX5 yX5_cells wsX5_cells) := goodIn_app (goodIn_of _ (by decide +kernel)) ggX5_run_X5_cells
set_option maxRecDepth 20000 in
theorem ggX5_run_X5_onlyNumber : GoodIn wsX5_run wsX5_onlyNumber := goodIn_r _ [25, 26, 27, 28, 4, 29, 1, 30, 31, 32, 33, 11, 12, 13, 14, 15, 16, 17, 18, 19, 20, 21, 34, 35, 36, 37, 38, 39, 40, 41, 42, 43, 44, 45, 46, 47, 48, 49, 50, 51, 52, 86, 87, 88, 89, 90, 91, 92, 93, 94, 95, 96, 97, 98] (by decide +kernel) (by decide +kernel)
set_option maxRecDepth 20000 in
theorem gX5_run_X5_onlyNumber : GoodIn wsX5_run (wsV RX5 140 RX5 yX5_onlyNumber wsX5_onlyNumber) := goodIn_app (goodIn_of _ (by decide +kernel)) ggX5_run_X5_onlyNumber
set_option maxRecDepth 20000 in
theorem ggX5_run_X5_shapedNumber : GoodIn wsX5_run wsX5_shapedNumber := goodIn_r _ [56, 1, 16, 17, 18, 4, 19, 20, 21, 34, 35, 36, 37, 15, 38, 39, 40, 41, 42, 43, 44, 45, 46, 47, 48, 26, 27, 28, 29, 30, 31, 32, 33, 11, 12, 13, 14, 49, 50, 51, 52, 57, 58, 59, 60, 61, 62, 63, 64, 86, 87, 88, 89, 90, 91, 92, 93, 94, 95, 96, 97, 98] (by decide +kernel) (by decide +kernel)
set_option maxRecDepth 20000 in
theorem gX5_run_X5_shapedNumber : GoodIn wsX5_run (wsV RX5 143 RX5 yX5_shapedNumber wsX5_shapedNumber) := goodIn_app (goodIn_of _ (by decide +kernel)) ggX5_run_X5_shapedNumber
set_option maxRecDepth 20000 in
theorem ggX5_run_X5_hiddenNumber : GoodIn wsX5_run wsX5_hiddenNumber := goodIn_r _ [68, 15, 69, 70, 71, 4, 72, 1, 16, 17, 18, 19, 20, 21, 73, 74, 75, 76, 34, 35, 36, 37, 38, 39, 40, 41, 42, 43, 44, 45, 46, 47, 48, 77, 78, 79, 26, 27, 28, 29, 30, 31, 32, 33, 11, 12, 13, 14, 49, 50, 51, 52, 86, 87, 88, 89, 90, 91, 92, 93, 94, 95, 96, 97, 98] (by decide +kernel) (by decide +kernel)
set_option maxRecDepth 20000 in
theorem gX5_run_X5_hiddenNumber : GoodIn wsX5_run (wsV RX5 146 RX5 yX5_hiddenNumber wsX5_hiddenNumber) := goodIn_app (goodIn_of _ (by decide +kernel)) ggX5_run_X5_hiddenNumber
set_option maxRecDepth 20000 in
theorem ggX5_run_X5_puts : GoodIn wsX5_run wsX5_puts := goodIn_r _ [83, 1, 84, 85, 11, 12, 13, 4, 14, 15, 16, 17, 18, 19, 20, 21, 86, 87, 88, 89, 90, 91, 92, 93, 94, 95, 96, 97, 98] (by decide +kernel) (by decide +kernel)
set_option maxRecDepth 20000 in
theorem gX5_run_X5_puts : GoodIn wsX5_run (wsV RX5 124 RX5 yX5_puts wsX5_puts) := goodIn_app (goodIn_of _ (by decide +kernel)) ggX5_run_X5_puts
theorem dX5_run_0 : decode cX5_run 0 = .ok (.aload_n 0, 1) := by decide +kernel
theorem dX5_run_1 : decode cX5_run 1 = .ok (.iload_n 1, 1) := by decide +kernel
theorem dX5_run_2 : decode cX5_run 2 = .ok (.iconst 0, 1) := by decide +kernel
theorem dX5_run_3 : decode cX5_run 3 = .ok (.iconst 2, 1) := by decide +kernel
theorem dX5_run_4 : decode cX5_run 4 = .ok (.invokestatic 45, 3) := by decide +kernel
theorem dX5_run_7 : decode cX5_run 7 = .ok (.ifCond .eq 7, 3) := by decide +kernel
theorem dX5_run_10 : decode cX5_run 10 = .ok (.iconst 0, 1) := by decide +kernel
theorem dX5_run_11 : decode cX5_run 11 = .ok (.goto 4, 3) := by decide +kernel
theorem dX5_run_14 : decode cX5_run 14 = .ok (.iconst 1, 1) := by decide +kernel
theorem dX5_run_15 : decode cX5_run 15 = .ok (.invokevirtual 76, 3) := by decide +kernel
theorem dX5_run_18 : decode cX5_run 18 = .ok (.ifCond .ne 5, 3) := by decide +kernel
theorem dX5_run_21 : decode cX5_run 21 = .ok (.iconst 0, 1) := by decide +kernel
theorem dX5_run_22 : decode cX5_run 22 = .ok (.ireturn, 1) := by decide +kernel
theorem dX5_run_23 : decode cX5_run 23 = .ok (.aload_n 0, 1) := by decide +kernel
theorem dX5_run_24 : decode cX5_run 24 = .ok (.invokevirtual 60, 3) := by decide +kernel
theorem dX5_run_27 : decode cX5_run 27 = .ok (.iconst 0, 1) := by decide +kernel
theorem dX5_run_28 : decode cX5_run 28 = .ok (.istore_n 2, 1) := by decide +kernel
theorem dX5_run_29 : decode cX5_run 29 = .ok (.iload_n 2, 1) := by decide +kernel
theorem dX5_run_30 : decode cX5_run 30 = .ok (.aload_n 0, 1) := by decide +kernel
theorem dX5_run_31 : decode cX5_run 31 = .ok (.invokevirtual 41, 3) := by decide +kernel
theorem dX5_run_34 : decode cX5_run 34 = .ok (.if_icmp .ge 66, 3) := by decide +kernel
theorem dX5_run_37 : decode cX5_run 37 = .ok (.aload_n 0, 1) := by decide +kernel
theorem dX5_run_38 : decode cX5_run 38 = .ok (.getfield 16, 3) := by decide +kernel
theorem dX5_run_41 : decode cX5_run 41 = .ok (.iload_n 2, 1) := by decide +kernel
theorem dX5_run_42 : decode cX5_run 42 = .ok (.iaload, 1) := by decide +kernel
theorem dX5_run_43 : decode cX5_run 43 = .ok (.ifCond .ne 51, 3) := by decide +kernel
theorem dX5_run_46 : decode cX5_run 46 = .ok (.iload_n 1, 1) := by decide +kernel
theorem dX5_run_47 : decode cX5_run 47 = .ok (.ifCond .ne 11, 3) := by decide +kernel
theorem dX5_run_50 : decode cX5_run 50 = .ok (.aload_n 0, 1) := by decide +kernel
theorem dX5_run_51 : decode cX5_run 51 = .ok (.iload_n 2, 1) := by decide +kernel
theorem dX5_run_52 : decode cX5_run 52 = .ok (.invokevirtual 140, 3) := by decide +kernel
theorem dX5_run_55 : decode cX5_run 55 = .ok (.goto 21, 3) := by decide +kernel
theorem dX5_run_58 : decode cX5_run 58 = .ok (.iload_n 1, 1) := by decide +kernel
theorem dX5_run_59 : decode cX5_run 59 = .ok (.iconst 1, 1) := by decide +kernel
theorem dX5_run_60 : decode cX5_run 60 = .ok (.if_icmp .ne 11, 3) := by decide +kernel
theorem dX5_run_63 : decode cX5_run 63 = .ok (.aload_n 0, 1) := by decide +kernel
theorem dX5_run_64 : decode cX5_run 64 = .ok (.iload_n 2, 1) := by decide +kernel
theorem dX5_run_65 : decode cX5_run 65 = .ok (.invokevirtual 143, 3) := by decide +kernel
theorem dX5_run_68 : decode cX5_run 68 = .ok (.goto 8, 3) := by decide +kernel
theorem dX5_run_71 : decode cX5_run 71 = .ok (.aload_n 0, 1) := by decide +kernel
theorem dX5_run_72 : decode cX5_run 72 = .ok (.iload_n 2, 1) := by decide +kernel
theorem dX5_run_73 : decode cX5_run 73 = .ok (.invokevirtual 146, 3) := by decide +kernel
theorem dX5_run_76 : decode cX5_run 76 = .ok (.istore_n 3, 1) := by decide +kernel
theorem dX5_run_77 : decode cX5_run 77 = .ok (.iload_n 3, 1) := by decide +kernel
theorem dX5_run_78 : decode cX5_run 78 = .ok (.ifCond .le 16, 3) := by decide +kernel
theorem dX5_run_81 : decode cX5_run 81 = .ok (.aload_n 0, 1) := by decide +kernel
theorem dX5_run_82 : decode cX5_run 82 = .ok (.iload_n 2, 1) := by decide +kernel
theorem dX5_run_83 : decode cX5_run 83 = .ok (.iload_n 3, 1) := by decide +kernel
theorem dX5_run_84 : decode cX5_run 84 = .ok (.invokevirtual 124, 3) := by decide +kernel
theorem dX5_run_87 : decode cX5_run 87 = .ok (.bipush 10, 2) := by decide +kernel
theorem dX5_run_89 : decode cX5_run 89 = .ok (.iload_n 2, 1) := by decide +kernel
theorem dX5_run_90 : decode cX5_run 90 = .ok (.imul, 1) := by decide +kernel
theorem dX5_run_91 : decode cX5_run 91 = .ok (.iload_n 3, 1) := by decide +kernel
theorem dX5_run_92 : decode cX5_run 92 = .ok (.iadd, 1) := by decide +kernel
theorem dX5_run_93 : decode cX5_run 93 = .ok (.ireturn, 1) := by decide +kernel
theorem dX5_run_94 : decode cX5_run 94 = .ok (.iinc 2 1, 3) := by decide +kernel
theorem dX5_run_97 : decode cX5_run 97 = .ok (.goto (-68), 3) := by decide +kernel
theorem dX5_run_100 : decode cX5_run 100 = .ok (.iconst (-1), 1) := by decide +kernel
theorem dX5_run_101 : decode cX5_run 101 = .ok (.ireturn, 1) := by decide +kernel
theorem dX5_filled_0 : decode cX5_filled 0 = .ok (.aload_n 0, 1) := by decide +kernel
theorem dX5_filled_1 : decode cX5_filled 1 = .ok (.iconst 0, 1) := by decide +kernel
theorem dX5_filled_2 : decode cX5_filled 2 = .ok (.putfield 38, 3) := by decide +kernel
theorem dX5_filled_5 : decode cX5_filled 5 = .ok (.aload_n 0, 1) := by decide +kernel
theorem dX5_filled_6 : decode cX5_filled 6 = .ok (.getfield 73, 3) := by decide +kernel
theorem dX5_filled_9 : decode cX5_filled 9 = .ok (.ireturn, 1) := by decide +kernel
set_option maxRecDepth 20000 in
theorem ggX5_area_X5_cells : GoodIn wsX5_area wsX5_cells := goodIn_r _ [6, 7, 8, 9, 10, 11, 12, 13, 14, 15, 16, 17, 18, 19, 20, 21] (by decide +kernel) (by decide +kernel)
set_option maxRecDepth 20000 in
theorem gX5_area_X5_cells : GoodIn wsX5_area (wsV RX5 41 RX5 yX5_cells wsX5_cells) := goodIn_app (goodIn_of _ (by decide +kernel)) ggX5_area_X5_cells
theorem dX5_area_0 : decode cX5_area 0 = .ok (.aload_n 0, 1) := by decide +kernel
theorem dX5_area_1 : decode cX5_area 1 = .ok (.iconst 0, 1) := by decide +kernel
theorem dX5_area_2 : decode cX5_area 2 = .ok (.putfield 38, 3) := by decide +kernel
theorem dX5_area_5 : decode cX5_area 5 = .ok (.aload_n 0, 1) := by decide +kernel
theorem dX5_area_6 : decode cX5_area 6 = .ok (.invokevirtual 41, 3) := by decide +kernel
theorem dX5_area_9 : decode cX5_area 9 = .ok (.ireturn, 1) := by decide +kernel
set_option maxRecDepth 20000 in
theorem ggX5_isAsked_X5_looks : GoodIn wsX5_isAsked wsX5_looks := goodIn_r _ [5, 6, 7, 8, 9, 10, 4, 11, 12, 13, 26, 27, 28, 29, 30, 31, 32, 33, 34, 35, 36, 37, 38] (by decide +kernel) (by decide +kernel)
set_option maxRecDepth 20000 in
theorem gX5_isAsked_X5_looks : GoodIn wsX5_isAsked (wsV RX5 60 RX5 yX5_looks wsX5_looks) := goodIn_app (goodIn_of _ (by decide +kernel)) ggX5_isAsked_X5_looks
set_option maxRecDepth 20000 in
theorem ggX5_isAsked_X5_isCell : GoodIn wsX5_isAsked wsX5_isCell := goodIn_r _ [17, 8, 9, 10, 4, 11, 12, 13, 18, 19, 20, 26, 27, 28, 29, 30, 31, 32, 33, 34, 35, 36, 37, 38] (by decide +kernel) (by decide +kernel)
set_option maxRecDepth 20000 in
theorem gX5_isAsked_X5_isCell : GoodIn wsX5_isAsked (wsV RX5 87 RX5 yX5_isCell wsX5_isCell) := goodIn_app (goodIn_of _ (by decide +kernel)) ggX5_isAsked_X5_isCell
set_option maxRecDepth 20000 in
theorem ggX5_isAsked_X5_can : GoodIn wsX5_isAsked wsX5_can := goodIn_r _ [24, 25, 26, 27, 28, 29, 30, 31, 32, 33, 34, 35, 36, 37, 38] (by decide +kernel) (by decide +kernel)
set_option maxRecDepth 20000 in
theorem gX5_isAsked_X5_can : GoodIn wsX5_isAsked (wsV RX5 76 RX5 yX5_can wsX5_can) := goodIn_app (goodIn_of _ (by decide +kernel)) ggX5_isAsked_X5_can
theorem dX5_isAsked_0 : decode cX5_isAsked 0 = .ok (.aload_n 0, 1) := by decide +kernel
theorem dX5_isAsked_1 : decode cX5_isAsked 1 = .ok (.invokevirtual 60, 3) := by decide +kernel
theorem dX5_isAsked_4 : decode cX5_isAsked 4 = .ok (.aload_n 0, 1) := by decide +kernel
theorem dX5_isAsked_5 : decode cX5_isAsked 5 = .ok (.aload_n 0, 1) := by decide +kernel
theorem dX5_isAsked_6 : decode cX5_isAsked 6 = .ok (.iload_n 1, 1) := by decide +kernel
theorem dX5_isAsked_7 : decode cX5_isAsked 7 = .ok (.invokevirtual 87, 3) := by decide +kernel
theorem dX5_isAsked_10 : decode cX5_isAsked 10 = .ok (.ifCond .eq 7, 3) := by decide +kernel
theorem dX5_isAsked_13 : decode cX5_isAsked 13 = .ok (.iconst 0, 1) := by decide +kernel
theorem dX5_isAsked_14 : decode cX5_isAsked 14 = .ok (.goto 4, 3) := by decide +kernel
theorem dX5_isAsked_17 : decode cX5_isAsked 17 = .ok (.iconst 1, 1) := by decide +kernel
theorem dX5_isAsked_18 : decode cX5_isAsked 18 = .ok (.invokevirtual 76, 3) := by decide +kernel
theorem dX5_isAsked_21 : decode cX5_isAsked 21 = .ok (.ireturn, 1) := by decide +kernel
set_option maxRecDepth 20000 in
theorem ggX5_at_X5_isAsked : GoodIn wsX5_at wsX5_isAsked := goodIn_r _ [6, 7, 8, 9, 5, 10, 11, 1, 12, 13, 14, 15, 16, 17, 18, 19, 20, 21, 22, 23, 24, 25, 26, 27, 28, 29, 30, 31, 32, 33, 34, 35, 36, 37, 38, 39, 40, 41, 42] (by decide +kernel) (by decide +kernel)
set_option maxRecDepth 20000 in
theorem gX5_at_X5_isAsked : GoodIn wsX5_at (wsV RX5 149 RX5 yX5_isAsked wsX5_isAsked) := goodIn_app (goodIn_of _ (by decide +kernel)) ggX5_at_X5_isAsked
theorem dX5_at_0 : decode cX5_at 0 = .ok (.aload_n 0, 1) := by decide +kernel
theorem dX5_at_1 : decode cX5_at 1 = .ok (.iload_n 1, 1) := by decide +kernel
theorem dX5_at_2 : decode cX5_at 2 = .ok (.invokevirtual 149, 3) := by decide +kernel
theorem dX5_at_5 : decode cX5_at 5 = .ok (.ifCond .eq 12, 3) := by decide +kernel
theorem dX5_at_8 : decode cX5_at 8 = .ok (.aload_n 0, 1) := by decide +kernel
theorem dX5_at_9 : decode cX5_at 9 = .ok (.getfield 16, 3) := by decide +kernel
theorem dX5_at_12 : decode cX5_at 12 = .ok (.iload_n 1, 1) := by decide +kernel
theorem dX5_at_13 : decode cX5_at 13 = .ok (.iaload, 1) := by decide +kernel
theorem dX5_at_14 : decode cX5_at 14 = .ok (.goto 4, 3) := by decide +kernel
theorem dX5_at_17 : decode cX5_at 17 = .ok (.iconst 0, 1) := by decide +kernel
theorem dX5_at_18 : decode cX5_at 18 = .ok (.ireturn, 1) := by decide +kernel
set_option maxRecDepth 20000 in
theorem ggX5_isClue_X5_isAsked : GoodIn wsX5_isClue wsX5_isAsked := goodIn_r _ [6, 7, 8, 9, 5, 10, 11, 12, 13, 14, 15, 16, 17, 18, 19, 20, 21, 22, 23, 24, 25, 26, 27, 28, 29, 30, 34, 35, 36, 37, 38, 39, 40, 41, 42, 43, 44, 45, 46] (by decide +kernel) (by decide +kernel)
set_option maxRecDepth 20000 in
theorem gX5_isClue_X5_isAsked : GoodIn wsX5_isClue (wsV RX5 149 RX5 yX5_isAsked wsX5_isAsked) := goodIn_app (goodIn_of _ (by decide +kernel)) ggX5_isClue_X5_isAsked
set_option maxRecDepth 20000 in
theorem ggX5_isClue_X5_has : GoodIn wsX5_isClue wsX5_has := goodIn_r _ [33] (by decide +kernel) (by decide +kernel)
set_option maxRecDepth 20000 in
theorem gX5_isClue_X5_has : GoodIn wsX5_isClue (va_wsS RX5 83 yX5_has wsX5_has) := goodIn_app (goodIn_of _ (by decide +kernel)) ggX5_isClue_X5_has
theorem dX5_isClue_0 : decode cX5_isClue 0 = .ok (.aload_n 0, 1) := by decide +kernel
theorem dX5_isClue_1 : decode cX5_isClue 1 = .ok (.iload_n 1, 1) := by decide +kernel
theorem dX5_isClue_2 : decode cX5_isClue 2 = .ok (.invokevirtual 149, 3) := by decide +kernel
theorem dX5_isClue_5 : decode cX5_isClue 5 = .ok (.ifCond .eq 18, 3) := by decide +kernel
theorem dX5_isClue_8 : decode cX5_isClue 8 = .ok (.aload_n 0, 1) := by decide +kernel
theorem dX5_isClue_9 : decode cX5_isClue 9 = .ok (.getfield 80, 3) := by decide +kernel
theorem dX5_isClue_12 : decode cX5_isClue 12 = .ok (.iload_n 1, 1) := by decide +kernel
theorem dX5_isClue_13 : decode cX5_isClue 13 = .ok (.invokestatic 83, 3) := by decide +kernel
theorem dX5_isClue_16 : decode cX5_isClue 16 = .ok (.ifCond .eq 7, 3) := by decide +kernel
theorem dX5_isClue_19 : decode cX5_isClue 19 = .ok (.iconst 1, 1) := by decide +kernel
theorem dX5_isClue_20 : decode cX5_isClue 20 = .ok (.goto 4, 3) := by decide +kernel
theorem dX5_isClue_23 : decode cX5_isClue 23 = .ok (.iconst 0, 1) := by decide +kernel
theorem dX5_isClue_24 : decode cX5_isClue 24 = .ok (.ireturn, 1) := by decide +kernel
set_option maxRecDepth 20000 in
theorem ggX5_size_X5_isAsked : GoodIn wsX5_size wsX5_isAsked := goodIn_r _ [6, 7, 8, 9, 5, 10, 11, 1, 12, 13, 14, 15, 16, 17, 18, 19, 20, 21, 22, 23, 24, 25, 26, 27, 28, 29, 45, 46, 47, 48, 49, 50, 51, 52, 53, 54, 55, 56, 57] (by decide +kernel) (by decide +kernel)
set_option maxRecDepth 20000 in
theorem gX5_size_X5_isAsked : GoodIn wsX5_size (wsV RX5 149 RX5 yX5_isAsked wsX5_isAsked) := goodIn_app (goodIn_of _ (by decide +kernel)) ggX5_size_X5_isAsked
set_option maxRecDepth 20000 in
theorem ggX5_size_X5_fieldOf : GoodIn wsX5_size wsX5_fieldOf := goodIn_r _ [33, 11, 1, 34, 35, 36, 5, 37, 38, 39, 40, 41, 16, 17, 12, 13, 14, 15, 45, 46, 47, 48, 49, 50, 51, 52, 53, 54, 55, 56, 57] (by decide +kernel) (by decide +kernel)
set_option maxRecDepth 20000 in
theorem gX5_size_X5_fieldOf : GoodIn wsX5_size (wsV RX5 63 RX5 yX5_fieldOf wsX5_fieldOf) := goodIn_app (goodIn_of _ (by decide +kernel)) ggX5_size_X5_fieldOf
set_option maxRecDepth 20000 in
theorem ggX5_size_X5_count : GoodIn wsX5_size wsX5_count := goodIn_r _ [44] (by decide +kernel) (by decide +kernel)
set_option maxRecDepth 20000 in
theorem gX5_size_X5_count : GoodIn wsX5_size (va_wsS RX5 57 yX5_count wsX5_count) := goodIn_app (goodIn_of _ (by decide +kernel)) ggX5_size_X5_count
theorem dX5_size_0 : decode cX5_size 0 = .ok (.aload_n 0, 1) := by decide +kernel
theorem dX5_size_1 : decode cX5_size 1 = .ok (.iload_n 1, 1) := by decide +kernel
theorem dX5_size_2 : decode cX5_size 2 = .ok (.invokevirtual 149, 3) := by decide +kernel
theorem dX5_size_5 : decode cX5_size 5 = .ok (.ifCond .eq 23, 3) := by decide +kernel
theorem dX5_size_8 : decode cX5_size 8 = .ok (.aload_n 0, 1) := by decide +kernel
theorem dX5_size_9 : decode cX5_size 9 = .ok (.getfield 16, 3) := by decide +kernel
theorem dX5_size_12 : decode cX5_size 12 = .ok (.iload_n 1, 1) := by decide +kernel
theorem dX5_size_13 : decode cX5_size 13 = .ok (.iaload, 1) := by decide +kernel
theorem dX5_size_14 : decode cX5_size 14 = .ok (.ifCond .le 14, 3) := by decide +kernel
theorem dX5_size_17 : decode cX5_size 17 = .ok (.aload_n 0, 1) := by decide +kernel
theorem dX5_size_18 : decode cX5_size 18 = .ok (.iload_n 1, 1) := by decide +kernel
theorem dX5_size_19 : decode cX5_size 19 = .ok (.invokevirtual 63, 3) := by decide +kernel
theorem dX5_size_22 : decode cX5_size 22 = .ok (.invokestatic 57, 3) := by decide +kernel
theorem dX5_size_25 : decode cX5_size 25 = .ok (.goto 4, 3) := by decide +kernel
theorem dX5_size_28 : decode cX5_size 28 = .ok (.iconst 0, 1) := by decide +kernel
theorem dX5_size_29 : decode cX5_size 29 = .ok (.ireturn, 1) := by decide +kernel
set_option maxRecDepth 20000 in
theorem ggX5_room_X5_isAsked : GoodIn wsX5_room wsX5_isAsked := goodIn_r _ [6, 7, 8, 9, 5, 10, 11, 1, 12, 13, 14, 15, 16, 17, 18, 19, 20, 21, 22, 23, 24, 25, 26, 27, 28, 29, 45, 46, 47, 48, 49, 50, 51, 52, 53, 54, 55, 56, 57] (by decide +kernel) (by decide +kernel)
set_option maxRecDepth 20000 in
theorem gX5_room_X5_isAsked : GoodIn wsX5_room (wsV RX5 149 RX5 yX5_isAsked wsX5_isAsked) := goodIn_app (goodIn_of _ (by decide +kernel)) ggX5_room_X5_isAsked
set_option maxRecDepth 20000 in
theorem ggX5_room_X5_roomOf : GoodIn wsX5_room wsX5_roomOf := goodIn_r _ [33, 11, 1, 34, 35, 36, 5, 37, 38, 39, 40, 41, 16, 17, 12, 13, 14, 15, 42, 43, 44, 45, 46, 47, 48, 49, 50, 51, 52, 53, 54, 55, 56, 57] (by decide +kernel) (by decide +kernel)
set_option maxRecDepth 20000 in
theorem gX5_room_X5_roomOf : GoodIn wsX5_room (wsV RX5 66 RX5 yX5_roomOf wsX5_roomOf) := goodIn_app (goodIn_of _ (by decide +kernel)) ggX5_room_X5_roomOf
theorem dX5_room_0 : decode cX5_room 0 = .ok (.aload_n 0, 1) := by decide +kernel
theorem dX5_room_1 : decode cX5_room 1 = .ok (.iload_n 1, 1) := by decide +kernel
theorem dX5_room_2 : decode cX5_room 2 = .ok (.invokevirtual 149, 3) := by decide +kernel
theorem dX5_room_5 : decode cX5_room 5 = .ok (.ifCond .eq 20, 3) := by decide +kernel
theorem dX5_room_8 : decode cX5_room 8 = .ok (.aload_n 0, 1) := by decide +kernel
theorem dX5_room_9 : decode cX5_room 9 = .ok (.getfield 16, 3) := by decide +kernel
theorem dX5_room_12 : decode cX5_room 12 = .ok (.iload_n 1, 1) := by decide +kernel
theorem dX5_room_13 : decode cX5_room 13 = .ok (.iaload, 1) := by decide +kernel
theorem dX5_room_14 : decode cX5_room 14 = .ok (.ifCond .le 11, 3) := by decide +kernel
theorem dX5_room_17 : decode cX5_room 17 = .ok (.aload_n 0, 1) := by decide +kernel
theorem dX5_room_18 : decode cX5_room 18 = .ok (.iload_n 1, 1) := by decide +kernel
theorem dX5_room_19 : decode cX5_room 19 = .ok (.invokevirtual 66, 3) := by decide +kernel
theorem dX5_room_22 : decode cX5_room 22 = .ok (.goto 4, 3) := by decide +kernel
theorem dX5_room_25 : decode cX5_room 25 = .ok (.iconst 0, 1) := by decide +kernel
theorem dX5_room_26 : decode cX5_room 26 = .ok (.ireturn, 1) := by decide +kernel
set_option maxRecDepth 20000 in
theorem ggX5_canBe_X5_isCell : GoodIn wsX5_canBe wsX5_isCell := goodIn_r _ [5, 6, 7, 8, 4, 9, 10, 11, 12, 13, 14, 53, 54, 55, 56, 57, 58, 59, 60, 61, 62, 63, 64, 65] (by decide +kernel) (by decide +kernel)
set_option maxRecDepth 20000 in
theorem gX5_canBe_X5_isCell : GoodIn wsX5_canBe (wsV RX5 87 RX5 yX5_isCell wsX5_isCell) := goodIn_app (goodIn_of _ (by decide +kernel)) ggX5_canBe_X5_isCell
set_option maxRecDepth 20000 in
theorem ggX5_canBe_X5_isIn : GoodIn wsX5_canBe wsX5_isIn := goodIn_r _ [14] (by decide +kernel) (by decide +kernel)
set_option maxRecDepth 20000 in
theorem gX5_canBe_X5_isIn : GoodIn wsX5_canBe (va_wsS RX5 45 yX5_isIn wsX5_isIn) := goodIn_app (goodIn_of _ (by decide +kernel)) ggX5_canBe_X5_isIn
set_option maxRecDepth 20000 in
theorem ggX5_canBe_X5_can : GoodIn wsX5_canBe wsX5_can := goodIn_r _ [18, 19, 53, 54, 55, 56, 57, 58, 59, 60, 61, 62, 63, 64, 65] (by decide +kernel) (by decide +kernel)
set_option maxRecDepth 20000 in
theorem gX5_canBe_X5_can : GoodIn wsX5_canBe (wsV RX5 76 RX5 yX5_can wsX5_can) := goodIn_app (goodIn_of _ (by decide +kernel)) ggX5_canBe_X5_can
set_option maxRecDepth 20000 in
theorem ggX5_canBe_X5_fits : GoodIn wsX5_canBe wsX5_fits := goodIn_r _ [23, 24, 25, 26, 27, 4, 28, 29, 30, 31, 32, 33, 6, 7, 8, 9, 10, 11, 34, 35, 36, 37, 38, 39, 40, 41, 42, 43, 44, 45, 46, 47, 48, 49, 50, 51, 52, 53, 54, 55, 56, 57, 58, 59, 60, 61, 62, 63, 64, 65] (by decide +kernel) (by decide +kernel)
set_option maxRecDepth 20000 in
theorem gX5_canBe_X5_fits : GoodIn wsX5_canBe (wsV RX5 102 RX5 yX5_fits wsX5_fits) := goodIn_app (goodIn_of _ (by decide +kernel)) ggX5_canBe_X5_fits
theorem dX5_canBe_0 : decode cX5_canBe 0 = .ok (.aload_n 0, 1) := by decide +kernel
theorem dX5_canBe_1 : decode cX5_canBe 1 = .ok (.aload_n 0, 1) := by decide +kernel
theorem dX5_canBe_2 : decode cX5_canBe 2 = .ok (.iload_n 1, 1) := by decide +kernel
theorem dX5_canBe_3 : decode cX5_canBe 3 = .ok (.invokevirtual 87, 3) := by decide +kernel
theorem dX5_canBe_6 : decode cX5_canBe 6 = .ok (.ifCond .ne 7, 3) := by decide +kernel
theorem dX5_canBe_9 : decode cX5_canBe 9 = .ok (.iconst 1, 1) := by decide +kernel
theorem dX5_canBe_10 : decode cX5_canBe 10 = .ok (.goto 18, 3) := by decide +kernel
theorem dX5_canBe_13 : decode cX5_canBe 13 = .ok (.iload_n 2, 1) := by decide +kernel
theorem dX5_canBe_14 : decode cX5_canBe 14 = .ok (.iconst 1, 1) := by decide +kernel
theorem dX5_canBe_15 : decode cX5_canBe 15 = .ok (.bipush 9, 2) := by decide +kernel
theorem dX5_canBe_17 : decode cX5_canBe 17 = .ok (.invokestatic 45, 3) := by decide +kernel
theorem dX5_canBe_20 : decode cX5_canBe 20 = .ok (.ifCond .eq 7, 3) := by decide +kernel
theorem dX5_canBe_23 : decode cX5_canBe 23 = .ok (.iconst 0, 1) := by decide +kernel
theorem dX5_canBe_24 : decode cX5_canBe 24 = .ok (.goto 4, 3) := by decide +kernel
theorem dX5_canBe_27 : decode cX5_canBe 27 = .ok (.iconst 2, 1) := by decide +kernel
theorem dX5_canBe_28 : decode cX5_canBe 28 = .ok (.invokevirtual 76, 3) := by decide +kernel
theorem dX5_canBe_31 : decode cX5_canBe 31 = .ok (.ifCond .eq 16, 3) := by decide +kernel
theorem dX5_canBe_34 : decode cX5_canBe 34 = .ok (.aload_n 0, 1) := by decide +kernel
theorem dX5_canBe_35 : decode cX5_canBe 35 = .ok (.iload_n 1, 1) := by decide +kernel
theorem dX5_canBe_36 : decode cX5_canBe 36 = .ok (.iload_n 2, 1) := by decide +kernel
theorem dX5_canBe_37 : decode cX5_canBe 37 = .ok (.invokevirtual 102, 3) := by decide +kernel
theorem dX5_canBe_40 : decode cX5_canBe 40 = .ok (.ifCond .eq 7, 3) := by decide +kernel
theorem dX5_canBe_43 : decode cX5_canBe 43 = .ok (.iconst 1, 1) := by decide +kernel
theorem dX5_canBe_44 : decode cX5_canBe 44 = .ok (.goto 4, 3) := by decide +kernel
theorem dX5_canBe_47 : decode cX5_canBe 47 = .ok (.iconst 0, 1) := by decide +kernel
theorem dX5_canBe_48 : decode cX5_canBe 48 = .ok (.ireturn, 1) := by decide +kernel
set_option maxRecDepth 20000 in
theorem ggX5_isHidden_X5_isAsked : GoodIn wsX5_isHidden wsX5_isAsked := goodIn_r _ [5, 6, 7, 8, 4, 9, 10, 11, 12, 13, 14, 15, 16, 17, 18, 19, 20, 21, 22, 23, 24, 25, 26, 27, 28, 29, 56, 57, 58, 59, 60, 61, 62, 63, 64, 65, 66, 67, 68] (by decide +kernel) (by decide +kernel)
set_option maxRecDepth 20000 in
theorem gX5_isHidden_X5_isAsked : GoodIn wsX5_isHidden (wsV RX5 149 RX5 yX5_isAsked wsX5_isAsked) := goodIn_app (goodIn_of _ (by decide +kernel)) ggX5_isHidden_X5_isAsked
set_option maxRecDepth 20000 in
theorem ggX5_isHidden_X5_hides : GoodIn wsX5_isHidden wsX5_hides := goodIn_r _ [33, 11, 12, 13, 14, 4, 15, 16, 17, 34, 35, 36, 37, 10, 38, 39, 40, 41, 42, 43, 44, 45, 46, 47, 48, 49, 50, 51, 52, 53, 54, 55, 56, 57, 58, 59, 60, 61, 62, 63, 64, 65, 66, 67, 68] (by decide +kernel) (by decide +kernel)
set_option maxRecDepth 20000 in
theorem gX5_isHidden_X5_hides : GoodIn wsX5_isHidden (wsV RX5 137 RX5 yX5_hides wsX5_hides) := goodIn_app (goodIn_of _ (by decide +kernel)) ggX5_isHidden_X5_hides
theorem dX5_isHidden_0 : decode cX5_isHidden 0 = .ok (.aload_n 0, 1) := by decide +kernel
theorem dX5_isHidden_1 : decode cX5_isHidden 1 = .ok (.iload_n 1, 1) := by decide +kernel
theorem dX5_isHidden_2 : decode cX5_isHidden 2 = .ok (.invokevirtual 149, 3) := by decide +kernel
theorem dX5_isHidden_5 : decode cX5_isHidden 5 = .ok (.ifCond .eq 15, 3) := by decide +kernel
theorem dX5_isHidden_8 : decode cX5_isHidden 8 = .ok (.aload_n 0, 1) := by decide +kernel
theorem dX5_isHidden_9 : decode cX5_isHidden 9 = .ok (.iload_n 1, 1) := by decide +kernel
theorem dX5_isHidden_10 : decode cX5_isHidden 10 = .ok (.invokevirtual 137, 3) := by decide +kernel
theorem dX5_isHidden_13 : decode cX5_isHidden 13 = .ok (.ifCond .eq 7, 3) := by decide +kernel
theorem dX5_isHidden_16 : decode cX5_isHidden 16 = .ok (.iconst 1, 1) := by decide +kernel
theorem dX5_isHidden_17 : decode cX5_isHidden 17 = .ok (.goto 4, 3) := by decide +kernel
theorem dX5_isHidden_20 : decode cX5_isHidden 20 = .ok (.iconst 0, 1) := by decide +kernel
theorem dX5_isHidden_21 : decode cX5_isHidden 21 = .ok (.ireturn, 1) := by decide +kernel
set_option maxRecDepth 20000 in
theorem ggX5_shapes_X5_isAsked : GoodIn wsX5_shapes wsX5_isAsked := goodIn_r _ [6, 7, 8, 9, 5, 10, 11, 1, 12, 13, 14, 15, 16, 17, 18, 19, 20, 21, 22, 23, 24, 25, 26, 27, 28, 29, 53, 54, 55, 56, 57, 58, 59, 60, 61, 62, 63, 64, 65] (by decide +kernel) (by decide +kernel)
set_option maxRecDepth 20000 in
theorem gX5_shapes_X5_isAsked : GoodIn wsX5_shapes (wsV RX5 149 RX5 yX5_isAsked wsX5_isAsked) := goodIn_app (goodIn_of _ (by decide +kernel)) ggX5_shapes_X5_isAsked
set_option maxRecDepth 20000 in
theorem ggX5_shapes_X5_shapesOf : GoodIn wsX5_shapes wsX5_shapesOf := goodIn_r _ [33, 12, 13, 14, 5, 15, 16, 17, 34, 35, 36, 37, 1, 11, 38, 39, 40, 41, 42, 43, 44, 45, 46, 47, 48, 49, 50, 51, 52, 53, 54, 55, 56, 57, 58, 59, 60, 61, 62, 63, 64, 65] (by decide +kernel) (by decide +kernel)
set_option maxRecDepth 20000 in
theorem gX5_shapes_X5_shapesOf : GoodIn wsX5_shapes (wsV RX5 131 RX5 yX5_shapesOf wsX5_shapesOf) := goodIn_app (goodIn_of _ (by decide +kernel)) ggX5_shapes_X5_shapesOf
theorem dX5_shapes_0 : decode cX5_shapes 0 = .ok (.aload_n 0, 1) := by decide +kernel
theorem dX5_shapes_1 : decode cX5_shapes 1 = .ok (.iload_n 1, 1) := by decide +kernel
theorem dX5_shapes_2 : decode cX5_shapes 2 = .ok (.invokevirtual 149, 3) := by decide +kernel
theorem dX5_shapes_5 : decode cX5_shapes 5 = .ok (.ifCond .eq 21, 3) := by decide +kernel
theorem dX5_shapes_8 : decode cX5_shapes 8 = .ok (.aload_n 0, 1) := by decide +kernel
theorem dX5_shapes_9 : decode cX5_shapes 9 = .ok (.getfield 16, 3) := by decide +kernel
theorem dX5_shapes_12 : decode cX5_shapes 12 = .ok (.iload_n 1, 1) := by decide +kernel
theorem dX5_shapes_13 : decode cX5_shapes 13 = .ok (.iaload, 1) := by decide +kernel
theorem dX5_shapes_14 : decode cX5_shapes 14 = .ok (.ifCond .le 12, 3) := by decide +kernel
theorem dX5_shapes_17 : decode cX5_shapes 17 = .ok (.aload_n 0, 1) := by decide +kernel
theorem dX5_shapes_18 : decode cX5_shapes 18 = .ok (.iload_n 1, 1) := by decide +kernel
theorem dX5_shapes_19 : decode cX5_shapes 19 = .ok (.iconst 0, 1) := by decide +kernel
theorem dX5_shapes_20 : decode cX5_shapes 20 = .ok (.invokevirtual 131, 3) := by decide +kernel
theorem dX5_shapes_23 : decode cX5_shapes 23 = .ok (.goto 4, 3) := by decide +kernel
theorem dX5_shapes_26 : decode cX5_shapes 26 = .ok (.iconst 0, 1) := by decide +kernel
theorem dX5_shapes_27 : decode cX5_shapes 27 = .ok (.ireturn, 1) := by decide +kernel
set_option maxRecDepth 20000 in
theorem ggX5_shapesWith_X5_looks : GoodIn wsX5_shapesWith wsX5_looks := goodIn_r _ [6, 7, 1, 8, 9, 10, 5, 11, 12, 13, 49, 50, 51, 52, 53, 54, 55, 56, 57, 58, 59, 60, 61] (by decide +kernel) (by decide +kernel)
set_option maxRecDepth 20000 in
theorem gX5_shapesWith_X5_looks : GoodIn wsX5_shapesWith (wsV RX5 60 RX5 yX5_looks wsX5_looks) := goodIn_app (goodIn_of _ (by decide +kernel)) ggX5_shapesWith_X5_looks
set_option maxRecDepth 20000 in
theorem ggX5_shapesWith_X5_isCell : GoodIn wsX5_shapesWith wsX5_isCell := goodIn_r _ [17, 8, 9, 10, 5, 11, 12, 13, 18, 19, 20, 49, 50, 51, 52, 53, 54, 55, 56, 57, 58, 59, 60, 61] (by decide +kernel) (by decide +kernel)
set_option maxRecDepth 20000 in
theorem gX5_shapesWith_X5_isCell : GoodIn wsX5_shapesWith (wsV RX5 87 RX5 yX5_isCell wsX5_isCell) := goodIn_app (goodIn_of _ (by decide +kernel)) ggX5_shapesWith_X5_isCell
set_option maxRecDepth 20000 in
theorem ggX5_shapesWith_X5_can : GoodIn wsX5_shapesWith wsX5_can := goodIn_r _ [24, 25, 49, 50, 51, 52, 53, 54, 55, 56, 57, 58, 59, 60, 61] (by decide +kernel) (by decide +kernel)
set_option maxRecDepth 20000 in
theorem gX5_shapesWith_X5_can : GoodIn wsX5_shapesWith (wsV RX5 76 RX5 yX5_can wsX5_can) := goodIn_app (goodIn_of _ (by decide +kernel)) ggX5_shapesWith_X5_can
set_option maxRecDepth 20000 in
theorem ggX5_shapesWith_X5_shapesOf : GoodIn wsX5_shapesWith wsX5_shapesOf := goodIn_r _ [29, 8, 9, 10, 5, 11, 12, 13, 30, 31, 32, 33, 1, 7, 34, 35, 36, 37, 38, 39, 40, 41, 42, 43, 44, 45, 46, 47, 48, 49, 50, 51, 52, 53, 54, 55, 56, 57, 58, 59, 60, 61] (by decide +kernel) (by decide +kernel)
set_option maxRecDepth 20000 in
theorem gX5_shapesWith_X5_shapesOf : GoodIn wsX5_shapesWith (wsV RX5 131 RX5 yX5_shapesOf wsX5_shapesOf) := goodIn_app (goodIn_of _ (by decide +kernel)) ggX5_shapesWith_X5_shapesOf
theorem dX5_shapesWith_0 : decode cX5_shapesWith 0 = .ok (.aload_n 0, 1) := by decide +kernel
theorem dX5_shapesWith_1 : decode cX5_shapesWith 1 = .ok (.invokevirtual 60, 3) := by decide +kernel
theorem dX5_shapesWith_4 : decode cX5_shapesWith 4 = .ok (.aload_n 0, 1) := by decide +kernel
theorem dX5_shapesWith_5 : decode cX5_shapesWith 5 = .ok (.aload_n 0, 1) := by decide +kernel
theorem dX5_shapesWith_6 : decode cX5_shapesWith 6 = .ok (.iload_n 1, 1) := by decide +kernel
theorem dX5_shapesWith_7 : decode cX5_shapesWith 7 = .ok (.invokevirtual 87, 3) := by decide +kernel
theorem dX5_shapesWith_10 : decode cX5_shapesWith 10 = .ok (.ifCond .eq 15, 3) := by decide +kernel
theorem dX5_shapesWith_13 : decode cX5_shapesWith 13 = .ok (.aload_n 0, 1) := by decide +kernel
theorem dX5_shapesWith_14 : decode cX5_shapesWith 14 = .ok (.iload_n 2, 1) := by decide +kernel
theorem dX5_shapesWith_15 : decode cX5_shapesWith 15 = .ok (.invokevirtual 87, 3) := by decide +kernel
theorem dX5_shapesWith_18 : decode cX5_shapesWith 18 = .ok (.ifCond .eq 7, 3) := by decide +kernel
theorem dX5_shapesWith_21 : decode cX5_shapesWith 21 = .ok (.iconst 0, 1) := by decide +kernel
theorem dX5_shapesWith_22 : decode cX5_shapesWith 22 = .ok (.goto 4, 3) := by decide +kernel
theorem dX5_shapesWith_25 : decode cX5_shapesWith 25 = .ok (.iconst 1, 1) := by decide +kernel
theorem dX5_shapesWith_26 : decode cX5_shapesWith 26 = .ok (.invokevirtual 76, 3) := by decide +kernel
theorem dX5_shapesWith_29 : decode cX5_shapesWith 29 = .ok (.ifCond .eq 23, 3) := by decide +kernel
theorem dX5_shapesWith_32 : decode cX5_shapesWith 32 = .ok (.aload_n 0, 1) := by decide +kernel
theorem dX5_shapesWith_33 : decode cX5_shapesWith 33 = .ok (.getfield 16, 3) := by decide +kernel
theorem dX5_shapesWith_36 : decode cX5_shapesWith 36 = .ok (.iload_n 1, 1) := by decide +kernel
theorem dX5_shapesWith_37 : decode cX5_shapesWith 37 = .ok (.iaload, 1) := by decide +kernel
theorem dX5_shapesWith_38 : decode cX5_shapesWith 38 = .ok (.ifCond .le 14, 3) := by decide +kernel
theorem dX5_shapesWith_41 : decode cX5_shapesWith 41 = .ok (.aload_n 0, 1) := by decide +kernel
theorem dX5_shapesWith_42 : decode cX5_shapesWith 42 = .ok (.iload_n 1, 1) := by decide +kernel
theorem dX5_shapesWith_43 : decode cX5_shapesWith 43 = .ok (.iconst 1, 1) := by decide +kernel
theorem dX5_shapesWith_44 : decode cX5_shapesWith 44 = .ok (.iload_n 2, 1) := by decide +kernel
theorem dX5_shapesWith_45 : decode cX5_shapesWith 45 = .ok (.ishl, 1) := by decide +kernel
theorem dX5_shapesWith_46 : decode cX5_shapesWith 46 = .ok (.invokevirtual 131, 3) := by decide +kernel
theorem dX5_shapesWith_49 : decode cX5_shapesWith 49 = .ok (.goto 4, 3) := by decide +kernel
theorem dX5_shapesWith_52 : decode cX5_shapesWith 52 = .ok (.iconst 0, 1) := by decide +kernel
theorem dX5_shapesWith_53 : decode cX5_shapesWith 53 = .ok (.ireturn, 1) := by decide +kernel
set_option maxRecDepth 20000 in
theorem ggX5_isSolved_X5_looks : GoodIn wsX5_isSolved wsX5_looks := goodIn_r _ [7, 8, 2, 9, 10, 11, 6, 12, 13, 14, 30, 31, 32, 33, 34, 35, 36, 37, 38, 39, 40, 41, 42] (by decide +kernel) (by decide +kernel)
set_option maxRecDepth 20000 in
theorem gX5_isSolved_X5_looks : GoodIn wsX5_isSolved (wsV RX5 60 RX5 yX5_looks wsX5_looks) := goodIn_app (goodIn_of _ (by decide +kernel)) ggX5_isSolved_X5_looks
set_option maxRecDepth 20000 in
theorem ggX5_isSolved_X5_cells : GoodIn wsX5_isSolved wsX5_cells := goodIn_r _ [12, 13, 14, 30, 31, 32, 33, 34, 35, 36, 37, 38, 39, 40, 41, 42] (by decide +kernel) (by decide +kernel)
set_option maxRecDepth 20000 in
theorem gX5_isSolved_X5_cells : GoodIn wsX5_isSolved (wsV RX5 41 RX5 yX5_cells wsX5_cells) := goodIn_app (goodIn_of _ (by decide +kernel)) ggX5_isSolved_X5_cells
set_option maxRecDepth 20000 in
theorem ggX5_isSolved_X5_fieldOf : GoodIn wsX5_isSolved wsX5_fieldOf := goodIn_r _ [18, 8, 2, 19, 20, 21, 6, 22, 23, 24, 25, 26, 13, 14, 9, 10, 11, 12, 30, 31, 32, 33, 34, 35, 36, 37, 38, 39, 40, 41, 42] (by decide +kernel) (by decide +kernel)
set_option maxRecDepth 20000 in
theorem gX5_isSolved_X5_fieldOf : GoodIn wsX5_isSolved (wsV RX5 63 RX5 yX5_fieldOf wsX5_fieldOf) := goodIn_app (goodIn_of _ (by decide +kernel)) ggX5_isSolved_X5_fieldOf
set_option maxRecDepth 20000 in
theorem ggX5_isSolved_X5_count : GoodIn wsX5_isSolved wsX5_count := goodIn_r _ [29] (by decide +kernel) (by decide +kernel)
set_option maxRecDepth 20000 in
theorem gX5_isSolved_X5_count : GoodIn wsX5_isSolved (va_wsS RX5 57 yX5_count wsX5_count) := goodIn_app (goodIn_of _ (by decide +kernel)) ggX5_isSolved_X5_count
theorem dX5_isSolved_0 : decode cX5_isSolved 0 = .ok (.aload_n 0, 1) := by decide +kernel
theorem dX5_isSolved_1 : decode cX5_isSolved 1 = .ok (.iconst 0, 1) := by decide +kernel
theorem dX5_isSolved_2 : decode cX5_isSolved 2 = .ok (.putfield 38, 3) := by decide +kernel
theorem dX5_isSolved_5 : decode cX5_isSolved 5 = .ok (.iconst 1, 1) := by decide +kernel
theorem dX5_isSolved_6 : decode cX5_isSolved 6 = .ok (.istore_n 1, 1) := by decide +kernel
theorem dX5_isSolved_7 : decode cX5_isSolved 7 = .ok (.aload_n 0, 1) := by decide +kernel
theorem dX5_isSolved_8 : decode cX5_isSolved 8 = .ok (.invokevirtual 60, 3) := by decide +kernel
theorem dX5_isSolved_11 : decode cX5_isSolved 11 = .ok (.iconst 0, 1) := by decide +kernel
theorem dX5_isSolved_12 : decode cX5_isSolved 12 = .ok (.istore_n 2, 1) := by decide +kernel
theorem dX5_isSolved_13 : decode cX5_isSolved 13 = .ok (.iload_n 2, 1) := by decide +kernel
theorem dX5_isSolved_14 : decode cX5_isSolved 14 = .ok (.aload_n 0, 1) := by decide +kernel
theorem dX5_isSolved_15 : decode cX5_isSolved 15 = .ok (.invokevirtual 41, 3) := by decide +kernel
theorem dX5_isSolved_18 : decode cX5_isSolved 18 = .ok (.if_icmp .ge 45, 3) := by decide +kernel
theorem dX5_isSolved_21 : decode cX5_isSolved 21 = .ok (.iload_n 1, 1) := by decide +kernel
theorem dX5_isSolved_22 : decode cX5_isSolved 22 = .ok (.ifCond .eq 41, 3) := by decide +kernel
theorem dX5_isSolved_25 : decode cX5_isSolved 25 = .ok (.aload_n 0, 1) := by decide +kernel
theorem dX5_isSolved_26 : decode cX5_isSolved 26 = .ok (.getfield 16, 3) := by decide +kernel
theorem dX5_isSolved_29 : decode cX5_isSolved 29 = .ok (.iload_n 2, 1) := by decide +kernel
theorem dX5_isSolved_30 : decode cX5_isSolved 30 = .ok (.iaload, 1) := by decide +kernel
theorem dX5_isSolved_31 : decode cX5_isSolved 31 = .ok (.ifCond .le 24, 3) := by decide +kernel
theorem dX5_isSolved_34 : decode cX5_isSolved 34 = .ok (.aload_n 0, 1) := by decide +kernel
theorem dX5_isSolved_35 : decode cX5_isSolved 35 = .ok (.iload_n 2, 1) := by decide +kernel
theorem dX5_isSolved_36 : decode cX5_isSolved 36 = .ok (.invokevirtual 63, 3) := by decide +kernel
theorem dX5_isSolved_39 : decode cX5_isSolved 39 = .ok (.invokestatic 57, 3) := by decide +kernel
theorem dX5_isSolved_42 : decode cX5_isSolved 42 = .ok (.aload_n 0, 1) := by decide +kernel
theorem dX5_isSolved_43 : decode cX5_isSolved 43 = .ok (.getfield 16, 3) := by decide +kernel
theorem dX5_isSolved_46 : decode cX5_isSolved 46 = .ok (.iload_n 2, 1) := by decide +kernel
theorem dX5_isSolved_47 : decode cX5_isSolved 47 = .ok (.iaload, 1) := by decide +kernel
theorem dX5_isSolved_48 : decode cX5_isSolved 48 = .ok (.if_icmp .ne 7, 3) := by decide +kernel
theorem dX5_isSolved_51 : decode cX5_isSolved 51 = .ok (.iconst 1, 1) := by decide +kernel
theorem dX5_isSolved_52 : decode cX5_isSolved 52 = .ok (.goto 4, 3) := by decide +kernel
theorem dX5_isSolved_55 : decode cX5_isSolved 55 = .ok (.iconst 0, 1) := by decide +kernel
theorem dX5_isSolved_56 : decode cX5_isSolved 56 = .ok (.istore_n 1, 1) := by decide +kernel
theorem dX5_isSolved_57 : decode cX5_isSolved 57 = .ok (.iinc 2 1, 3) := by decide +kernel
theorem dX5_isSolved_60 : decode cX5_isSolved 60 = .ok (.goto (-47), 3) := by decide +kernel
theorem dX5_isSolved_63 : decode cX5_isSolved 63 = .ok (.iload_n 1, 1) := by decide +kernel
theorem dX5_isSolved_64 : decode cX5_isSolved 64 = .ok (.ireturn, 1) := by decide +kernel
set_option maxRecDepth 20000 in
theorem ggX5_solutions_X5_isIn : GoodIn wsX5_solutions wsX5_isIn := goodIn_r _ [4] (by decide +kernel) (by decide +kernel)
set_option maxRecDepth 20000 in
theorem gX5_solutions_X5_isIn : GoodIn wsX5_solutions (va_wsS RX5 45 yX5_isIn wsX5_isIn) := goodIn_app (goodIn_of _ (by decide +kernel)) ggX5_solutions_X5_isIn
set_option maxRecDepth 20000 in
theorem ggX5_solutions_X5_can : GoodIn wsX5_solutions wsX5_can := goodIn_r _ [8, 9, 64, 65, 66, 67, 68, 69, 70, 71, 72, 73, 74, 75, 76] (by decide +kernel) (by decide +kernel)
set_option maxRecDepth 20000 in
theorem gX5_solutions_X5_can : GoodIn wsX5_solutions (wsV RX5 76 RX5 yX5_can wsX5_can) := goodIn_app (goodIn_of _ (by decide +kernel)) ggX5_solutions_X5_can
set_option maxRecDepth 20000 in
theorem ggX5_solutions_X5_searches : GoodIn wsX5_solutions wsX5_searches := goodIn_r _ [13, 14, 15, 16, 17, 18, 19, 20, 3, 21, 22, 23, 24, 25, 26, 27, 28, 29, 30, 31, 32, 33, 34, 35, 36, 37, 38, 39, 40, 41, 42, 43, 44, 45, 46, 47, 48, 49, 50, 51, 52, 53, 54, 55, 56, 57, 58, 59, 60, 61, 62, 63, 64, 65, 66, 67, 68, 69, 70, 71, 72, 73, 74, 75, 76] (by decide +kernel) (by decide +kernel)
set_option maxRecDepth 20000 in
theorem gX5_solutions_X5_searches : GoodIn wsX5_solutions (wsV RX5 120 RX5 yX5_searches wsX5_searches) := goodIn_app (goodIn_of _ (by decide +kernel)) ggX5_solutions_X5_searches
theorem dX5_solutions_0 : decode cX5_solutions 0 = .ok (.aload_n 0, 1) := by decide +kernel
theorem dX5_solutions_1 : decode cX5_solutions 1 = .ok (.iload_n 1, 1) := by decide +kernel
theorem dX5_solutions_2 : decode cX5_solutions 2 = .ok (.iconst 1, 1) := by decide +kernel
theorem dX5_solutions_3 : decode cX5_solutions 3 = .ok (.iconst 5, 1) := by decide +kernel
theorem dX5_solutions_4 : decode cX5_solutions 4 = .ok (.invokestatic 45, 3) := by decide +kernel
theorem dX5_solutions_7 : decode cX5_solutions 7 = .ok (.ifCond .eq 7, 3) := by decide +kernel
theorem dX5_solutions_10 : decode cX5_solutions 10 = .ok (.iconst 0, 1) := by decide +kernel
theorem dX5_solutions_11 : decode cX5_solutions 11 = .ok (.goto 4, 3) := by decide +kernel
theorem dX5_solutions_14 : decode cX5_solutions 14 = .ok (.iconst 1, 1) := by decide +kernel
theorem dX5_solutions_15 : decode cX5_solutions 15 = .ok (.invokevirtual 76, 3) := by decide +kernel
theorem dX5_solutions_18 : decode cX5_solutions 18 = .ok (.ifCond .eq 12, 3) := by decide +kernel
theorem dX5_solutions_21 : decode cX5_solutions 21 = .ok (.aload_n 0, 1) := by decide +kernel
theorem dX5_solutions_22 : decode cX5_solutions 22 = .ok (.iload_n 1, 1) := by decide +kernel
theorem dX5_solutions_23 : decode cX5_solutions 23 = .ok (.iconst 0, 1) := by decide +kernel
theorem dX5_solutions_24 : decode cX5_solutions 24 = .ok (.invokevirtual 120, 3) := by decide +kernel
theorem dX5_solutions_27 : decode cX5_solutions 27 = .ok (.goto 4, 3) := by decide +kernel
theorem dX5_solutions_30 : decode cX5_solutions 30 = .ok (.iconst 0, 1) := by decide +kernel
theorem dX5_solutions_31 : decode cX5_solutions 31 = .ok (.ireturn, 1) := by decide +kernel
theorem dJ6_bitCount_0f7a4_0 : decode cJ6_bitCount_0f7a4 0 = .ok (.iload_n 0, 1) := by decide +kernel
theorem dJ6_bitCount_0f7a4_1 : decode cJ6_bitCount_0f7a4 1 = .ok (.iload_n 0, 1) := by decide +kernel
theorem dJ6_bitCount_0f7a4_2 : decode cJ6_bitCount_0f7a4 2 = .ok (.iconst 1, 1) := by decide +kernel
theorem dJ6_bitCount_0f7a4_3 : decode cJ6_bitCount_0f7a4 3 = .ok (.iushr, 1) := by decide +kernel
theorem dJ6_bitCount_0f7a4_4 : decode cJ6_bitCount_0f7a4 4 = .ok (.ldc_w 265, 3) := by decide +kernel
theorem dJ6_bitCount_0f7a4_7 : decode cJ6_bitCount_0f7a4 7 = .ok (.iand, 1) := by decide +kernel
theorem dJ6_bitCount_0f7a4_8 : decode cJ6_bitCount_0f7a4 8 = .ok (.isub, 1) := by decide +kernel
theorem dJ6_bitCount_0f7a4_9 : decode cJ6_bitCount_0f7a4 9 = .ok (.istore_n 0, 1) := by decide +kernel
theorem dJ6_bitCount_0f7a4_10 : decode cJ6_bitCount_0f7a4 10 = .ok (.iload_n 0, 1) := by decide +kernel
theorem dJ6_bitCount_0f7a4_11 : decode cJ6_bitCount_0f7a4 11 = .ok (.ldc_w 266, 3) := by decide +kernel
theorem dJ6_bitCount_0f7a4_14 : decode cJ6_bitCount_0f7a4 14 = .ok (.iand, 1) := by decide +kernel
theorem dJ6_bitCount_0f7a4_15 : decode cJ6_bitCount_0f7a4 15 = .ok (.iload_n 0, 1) := by decide +kernel
theorem dJ6_bitCount_0f7a4_16 : decode cJ6_bitCount_0f7a4 16 = .ok (.iconst 2, 1) := by decide +kernel
theorem dJ6_bitCount_0f7a4_17 : decode cJ6_bitCount_0f7a4 17 = .ok (.iushr, 1) := by decide +kernel
theorem dJ6_bitCount_0f7a4_18 : decode cJ6_bitCount_0f7a4 18 = .ok (.ldc_w 266, 3) := by decide +kernel
theorem dJ6_bitCount_0f7a4_21 : decode cJ6_bitCount_0f7a4 21 = .ok (.iand, 1) := by decide +kernel
theorem dJ6_bitCount_0f7a4_22 : decode cJ6_bitCount_0f7a4 22 = .ok (.iadd, 1) := by decide +kernel
theorem dJ6_bitCount_0f7a4_23 : decode cJ6_bitCount_0f7a4 23 = .ok (.istore_n 0, 1) := by decide +kernel
theorem dJ6_bitCount_0f7a4_24 : decode cJ6_bitCount_0f7a4 24 = .ok (.iload_n 0, 1) := by decide +kernel
theorem dJ6_bitCount_0f7a4_25 : decode cJ6_bitCount_0f7a4 25 = .ok (.iload_n 0, 1) := by decide +kernel
theorem dJ6_bitCount_0f7a4_26 : decode cJ6_bitCount_0f7a4 26 = .ok (.iconst 4, 1) := by decide +kernel
theorem dJ6_bitCount_0f7a4_27 : decode cJ6_bitCount_0f7a4 27 = .ok (.iushr, 1) := by decide +kernel
theorem dJ6_bitCount_0f7a4_28 : decode cJ6_bitCount_0f7a4 28 = .ok (.iadd, 1) := by decide +kernel
theorem dJ6_bitCount_0f7a4_29 : decode cJ6_bitCount_0f7a4 29 = .ok (.ldc_w 267, 3) := by decide +kernel
theorem dJ6_bitCount_0f7a4_32 : decode cJ6_bitCount_0f7a4 32 = .ok (.iand, 1) := by decide +kernel
theorem dJ6_bitCount_0f7a4_33 : decode cJ6_bitCount_0f7a4 33 = .ok (.istore_n 0, 1) := by decide +kernel
theorem dJ6_bitCount_0f7a4_34 : decode cJ6_bitCount_0f7a4 34 = .ok (.iload_n 0, 1) := by decide +kernel
theorem dJ6_bitCount_0f7a4_35 : decode cJ6_bitCount_0f7a4 35 = .ok (.iload_n 0, 1) := by decide +kernel
theorem dJ6_bitCount_0f7a4_36 : decode cJ6_bitCount_0f7a4 36 = .ok (.bipush 8, 2) := by decide +kernel
theorem dJ6_bitCount_0f7a4_38 : decode cJ6_bitCount_0f7a4 38 = .ok (.iushr, 1) := by decide +kernel
theorem dJ6_bitCount_0f7a4_39 : decode cJ6_bitCount_0f7a4 39 = .ok (.iadd, 1) := by decide +kernel
theorem dJ6_bitCount_0f7a4_40 : decode cJ6_bitCount_0f7a4 40 = .ok (.istore_n 0, 1) := by decide +kernel
theorem dJ6_bitCount_0f7a4_41 : decode cJ6_bitCount_0f7a4 41 = .ok (.iload_n 0, 1) := by decide +kernel
theorem dJ6_bitCount_0f7a4_42 : decode cJ6_bitCount_0f7a4 42 = .ok (.iload_n 0, 1) := by decide +kernel
theorem dJ6_bitCount_0f7a4_43 : decode cJ6_bitCount_0f7a4 43 = .ok (.bipush 16, 2) := by decide +kernel
theorem dJ6_bitCount_0f7a4_45 : decode cJ6_bitCount_0f7a4 45 = .ok (.iushr, 1) := by decide +kernel
theorem dJ6_bitCount_0f7a4_46 : decode cJ6_bitCount_0f7a4 46 = .ok (.iadd, 1) := by decide +kernel
theorem dJ6_bitCount_0f7a4_47 : decode cJ6_bitCount_0f7a4 47 = .ok (.istore_n 0, 1) := by decide +kernel
theorem dJ6_bitCount_0f7a4_48 : decode cJ6_bitCount_0f7a4 48 = .ok (.iload_n 0, 1) := by decide +kernel
theorem dJ6_bitCount_0f7a4_49 : decode cJ6_bitCount_0f7a4 49 = .ok (.bipush 63, 2) := by decide +kernel
theorem dJ6_bitCount_0f7a4_51 : decode cJ6_bitCount_0f7a4 51 = .ok (.iand, 1) := by decide +kernel
theorem dJ6_bitCount_0f7a4_52 : decode cJ6_bitCount_0f7a4 52 = .ok (.ireturn, 1) := by decide +kernel
theorem dJ9_floorMod_7cf53_0 : decode cJ9_floorMod_7cf53 0 = .ok (.iload_n 0, 1) := by decide +kernel
theorem dJ9_floorMod_7cf53_1 : decode cJ9_floorMod_7cf53 1 = .ok (.iload_n 1, 1) := by decide +kernel
theorem dJ9_floorMod_7cf53_2 : decode cJ9_floorMod_7cf53 2 = .ok (.irem, 1) := by decide +kernel
theorem dJ9_floorMod_7cf53_3 : decode cJ9_floorMod_7cf53 3 = .ok (.istore_n 2, 1) := by decide +kernel
theorem dJ9_floorMod_7cf53_4 : decode cJ9_floorMod_7cf53 4 = .ok (.iload_n 0, 1) := by decide +kernel
theorem dJ9_floorMod_7cf53_5 : decode cJ9_floorMod_7cf53 5 = .ok (.iload_n 1, 1) := by decide +kernel
theorem dJ9_floorMod_7cf53_6 : decode cJ9_floorMod_7cf53 6 = .ok (.ixor, 1) := by decide +kernel
theorem dJ9_floorMod_7cf53_7 : decode cJ9_floorMod_7cf53 7 = .ok (.ifCond .ge 11, 3) := by decide +kernel
theorem dJ9_floorMod_7cf53_10 : decode cJ9_floorMod_7cf53 10 = .ok (.iload_n 2, 1) := by decide +kernel
theorem dJ9_floorMod_7cf53_11 : decode cJ9_floorMod_7cf53 11 = .ok (.ifCond .eq 7, 3) := by decide +kernel
theorem dJ9_floorMod_7cf53_14 : decode cJ9_floorMod_7cf53 14 = .ok (.iload_n 2, 1) := by decide +kernel
theorem dJ9_floorMod_7cf53_15 : decode cJ9_floorMod_7cf53 15 = .ok (.iload_n 1, 1) := by decide +kernel
theorem dJ9_floorMod_7cf53_16 : decode cJ9_floorMod_7cf53 16 = .ok (.iadd, 1) := by decide +kernel
theorem dJ9_floorMod_7cf53_17 : decode cJ9_floorMod_7cf53 17 = .ok (.ireturn, 1) := by decide +kernel
theorem dJ9_floorMod_7cf53_18 : decode cJ9_floorMod_7cf53 18 = .ok (.iload_n 2, 1) := by decide +kernel
theorem dJ9_floorMod_7cf53_19 : decode cJ9_floorMod_7cf53 19 = .ok (.ireturn, 1) := by decide +kernel
set_option maxRecDepth 20000 in
theorem ggL_lay_X4_lay : GoodIn wsL_lay wsX4_lay := goodIn_ca (goodIn_r _ [6, 7, 8, 9, 10, 11, 12, 5, 13, 14, 15, 16, 17, 18, 19, 20, 21, 22, 23, 24, 25, 26, 27, 28, 29, 30, 31, 32, 33, 34, 35, 36, 37, 38, 39, 40, 41, 42, 43, 44, 45, 46, 47, 48, 49, 50, 51, 52, 53, 54, 55, 56, 57, 58] (by decide +kernel) (by decide +kernel)) (goodIn_sub (fun _ h => List.mem_cons_of_mem _ (List.mem_append_right _ h)) (by decide +kernel))
set_option maxRecDepth 20000 in
theorem gL_lay_X4_lay : GoodIn wsL_lay (wsV RL 7 RX4 yX4_lay wsX4_lay) := goodIn_app (goodIn_of _ (by decide +kernel)) ggL_lay_X4_lay
theorem dL_lay_0 : decode cL_lay 0 = .ok (.aload_n 3, 1) := by decide +kernel
theorem dL_lay_1 : decode cL_lay 1 = .ok (.iconst 0, 1) := by decide +kernel
theorem dL_lay_2 : decode cL_lay 2 = .ok (.aload_n 0, 1) := by decide +kernel
theorem dL_lay_3 : decode cL_lay 3 = .ok (.iload_n 1, 1) := by decide +kernel
theorem dL_lay_4 : decode cL_lay 4 = .ok (.iload_n 2, 1) := by decide +kernel
theorem dL_lay_5 : decode cL_lay 5 = .ok (.invokevirtual 7, 3) := by decide +kernel
theorem dL_lay_8 : decode cL_lay 8 = .ok (.i2l, 1) := by decide +kernel
theorem dL_lay_9 : decode cL_lay 9 = .ok (.lastore, 1) := by decide +kernel
theorem dL_lay_10 : decode cL_lay 10 = .ok (.goto 7, 3) := by decide +kernel
theorem dL_lay_13 : decode cL_lay 13 = .ok (.astore 4, 2) := by decide +kernel
theorem dL_lay_15 : decode cL_lay 15 = .ok (.iconst 1, 1) := by decide +kernel
theorem dL_lay_16 : decode cL_lay 16 = .ok (.ireturn, 1) := by decide +kernel
theorem dL_lay_17 : decode cL_lay 17 = .ok (.iconst 0, 1) := by decide +kernel
theorem dL_lay_18 : decode cL_lay 18 = .ok (.ireturn, 1) := by decide +kernel
set_option maxRecDepth 20000 in
theorem ggL_clue_X4_clue : GoodIn wsL_clue wsX4_clue := goodIn_ca (goodIn_ca (goodIn_ca (goodIn_r _ [8, 9, 10, 11, 12, 13, 14, 7, 15, 16, 17, 18, 19, 20, 21, 22, 23, 24, 25, 26, 27, 28, 29, 30, 31, 32, 33, 34, 35, 36, 37, 38, 39, 40, 41, 42, 43, 44, 45, 46, 47, 48, 49, 50, 51, 52, 53, 54, 55, 56, 57, 58, 59, 60, 61, 62, 63, 64, 65, 66, 67, 68, 69, 70, 71, 72, 73, 74, 75, 76, 77, 78, 79, 80, 81, 82, 83, 84, 85, 86, 87, 88, 89, 90, 91, 92, 93, 94, 95, 96, 97, 98, 99, 100] (by decide +kernel) (by decide +kernel)) (goodIn_sub (fun _ h => List.mem_cons_of_mem _ (List.mem_append_left _ (List.mem_append_left _ (List.mem_append_right _ h)))) (by decide +kernel))) (goodIn_sub (fun _ h => List.mem_cons_of_mem _ (List.mem_append_left _ (List.mem_append_right _ h))) (by decide +kernel))) (goodIn_sub (fun _ h => List.mem_cons_of_mem _ (List.mem_append_right _ h)) (by decide +kernel))
set_option maxRecDepth 20000 in
theorem gL_clue_X4_clue : GoodIn wsL_clue (wsV RL 15 RX4 yX4_clue wsX4_clue) := goodIn_app (goodIn_of _ (by decide +kernel)) ggL_clue_X4_clue
theorem dL_clue_0 : decode cL_clue 0 = .ok (.aload_n 3, 1) := by decide +kernel
theorem dL_clue_1 : decode cL_clue 1 = .ok (.iconst 0, 1) := by decide +kernel
theorem dL_clue_2 : decode cL_clue 2 = .ok (.aload_n 0, 1) := by decide +kernel
theorem dL_clue_3 : decode cL_clue 3 = .ok (.iload_n 1, 1) := by decide +kernel
theorem dL_clue_4 : decode cL_clue 4 = .ok (.iload_n 2, 1) := by decide +kernel
theorem dL_clue_5 : decode cL_clue 5 = .ok (.invokevirtual 15, 3) := by decide +kernel
theorem dL_clue_8 : decode cL_clue 8 = .ok (.i2l, 1) := by decide +kernel
theorem dL_clue_9 : decode cL_clue 9 = .ok (.lastore, 1) := by decide +kernel
theorem dL_clue_10 : decode cL_clue 10 = .ok (.goto 15, 3) := by decide +kernel
theorem dL_clue_13 : decode cL_clue 13 = .ok (.astore 4, 2) := by decide +kernel
theorem dL_clue_15 : decode cL_clue 15 = .ok (.iconst 1, 1) := by decide +kernel
theorem dL_clue_16 : decode cL_clue 16 = .ok (.ireturn, 1) := by decide +kernel
theorem dL_clue_17 : decode cL_clue 17 = .ok (.astore 4, 2) := by decide +kernel
theorem dL_clue_19 : decode cL_clue 19 = .ok (.iconst 2, 1) := by decide +kernel
theorem dL_clue_20 : decode cL_clue 20 = .ok (.ireturn, 1) := by decide +kernel
theorem dL_clue_21 : decode cL_clue 21 = .ok (.astore 4, 2) := by decide +kernel
theorem dL_clue_23 : decode cL_clue 23 = .ok (.iconst 3, 1) := by decide +kernel
theorem dL_clue_24 : decode cL_clue 24 = .ok (.ireturn, 1) := by decide +kernel
theorem dL_clue_25 : decode cL_clue 25 = .ok (.iconst 0, 1) := by decide +kernel
theorem dL_clue_26 : decode cL_clue 26 = .ok (.ireturn, 1) := by decide +kernel
set_option maxRecDepth 20000 in
theorem ggL_make_X4_make : GoodIn wsL_make wsX4_make := goodIn_ca (goodIn_r _ [6, 7, 8, 9, 10, 11, 12, 13, 14, 15, 16, 17, 18, 19, 20, 21, 22, 23, 24, 25, 26, 27, 28, 29, 30, 31, 32, 33, 34, 35, 36, 37, 38, 39, 40, 41, 42, 43, 44, 45, 46, 47, 48, 49, 50, 51, 52, 53, 54, 55, 56, 57, 58, 59, 60, 61, 62, 63, 64, 65, 66, 67, 68, 69, 70, 71, 72, 73, 74, 75, 76, 77, 78, 79, 80, 81, 82, 83, 84, 85, 86, 87, 88, 89, 90, 91, 92, 93, 94, 95, 96, 97, 98, 99, 100, 101, 102, 103, 104, 105, 106, 107, 5, 108, 109, 110, 111, 112, 113, 114, 115, 116, 117, 118, 119, 120, 121, 122, 123, 124, 125, 126, 127, 128, 129, 130, 131, 132, 133, 134] (by decide +kernel) (by decide +kernel)) (goodIn_sub (fun _ h => List.mem_cons_of_mem _ (List.mem_append_right _ h)) (by decide +kernel))
set_option maxRecDepth 20000 in
theorem gL_make_X4_make : GoodIn wsL_make (wsV RL 22 RX4 yX4_make wsX4_make) := goodIn_app (goodIn_of _ (by decide +kernel)) ggL_make_X4_make
theorem dL_make_0 : decode cL_make 0 = .ok (.aload_n 2, 1) := by decide +kernel
theorem dL_make_1 : decode cL_make 1 = .ok (.iconst 0, 1) := by decide +kernel
theorem dL_make_2 : decode cL_make 2 = .ok (.aload_n 0, 1) := by decide +kernel
theorem dL_make_3 : decode cL_make 3 = .ok (.iload_n 1, 1) := by decide +kernel
theorem dL_make_4 : decode cL_make 4 = .ok (.invokevirtual 22, 3) := by decide +kernel
theorem dL_make_7 : decode cL_make 7 = .ok (.i2l, 1) := by decide +kernel
theorem dL_make_8 : decode cL_make 8 = .ok (.lastore, 1) := by decide +kernel
theorem dL_make_9 : decode cL_make 9 = .ok (.goto 6, 3) := by decide +kernel
theorem dL_make_12 : decode cL_make 12 = .ok (.astore_n 3, 1) := by decide +kernel
theorem dL_make_13 : decode cL_make 13 = .ok (.iconst 1, 1) := by decide +kernel
theorem dL_make_14 : decode cL_make 14 = .ok (.ireturn, 1) := by decide +kernel
theorem dL_make_15 : decode cL_make 15 = .ok (.iconst 0, 1) := by decide +kernel
theorem dL_make_16 : decode cL_make 16 = .ok (.ireturn, 1) := by decide +kernel
set_option maxRecDepth 20000 in
theorem ggL_fill_X4_fill : GoodIn wsL_fill wsX4_fill := goodIn_ca (goodIn_ca (goodIn_ca (goodIn_r _ [8, 9, 10, 11, 12, 13, 14, 7, 15, 16, 17, 18, 19, 20, 21, 22, 23, 24, 25, 26, 27, 28, 29, 30, 31, 32, 33, 34, 35, 36, 37, 38, 39, 40, 41, 42, 43, 44, 45, 46, 47, 48, 49, 50, 51, 52, 53, 54, 55, 56, 57, 58, 59, 60, 61, 62, 63, 64, 65, 66, 67, 68, 69, 70, 71, 72, 73, 74, 75, 76, 77, 78, 79, 80, 81, 82, 83, 84, 85, 86, 87, 88, 89, 90, 91, 92, 93, 94, 95, 96, 97, 98, 99, 100] (by decide +kernel) (by decide +kernel)) (goodIn_sub (fun _ h => List.mem_cons_of_mem _ (List.mem_append_left _ (List.mem_append_left _ (List.mem_append_right _ h)))) (by decide +kernel))) (goodIn_sub (fun _ h => List.mem_cons_of_mem _ (List.mem_append_left _ (List.mem_append_right _ h))) (by decide +kernel))) (goodIn_sub (fun _ h => List.mem_cons_of_mem _ (List.mem_append_right _ h)) (by decide +kernel))
set_option maxRecDepth 20000 in
theorem gL_fill_X4_fill : GoodIn wsL_fill (wsV RL 26 RX4 yX4_fill wsX4_fill) := goodIn_app (goodIn_of _ (by decide +kernel)) ggL_fill_X4_fill
theorem dL_fill_0 : decode cL_fill 0 = .ok (.aload_n 3, 1) := by decide +kernel
theorem dL_fill_1 : decode cL_fill 1 = .ok (.iconst 0, 1) := by decide +kernel
theorem dL_fill_2 : decode cL_fill 2 = .ok (.aload_n 0, 1) := by decide +kernel
theorem dL_fill_3 : decode cL_fill 3 = .ok (.iload_n 1, 1) := by decide +kernel
theorem dL_fill_4 : decode cL_fill 4 = .ok (.iload_n 2, 1) := by decide +kernel
theorem dL_fill_5 : decode cL_fill 5 = .ok (.invokevirtual 26, 3) := by decide +kernel
theorem dL_fill_8 : decode cL_fill 8 = .ok (.i2l, 1) := by decide +kernel
theorem dL_fill_9 : decode cL_fill 9 = .ok (.lastore, 1) := by decide +kernel
theorem dL_fill_10 : decode cL_fill 10 = .ok (.goto 15, 3) := by decide +kernel
theorem dL_fill_13 : decode cL_fill 13 = .ok (.astore 4, 2) := by decide +kernel
theorem dL_fill_15 : decode cL_fill 15 = .ok (.iconst 1, 1) := by decide +kernel
theorem dL_fill_16 : decode cL_fill 16 = .ok (.ireturn, 1) := by decide +kernel
theorem dL_fill_17 : decode cL_fill 17 = .ok (.astore 4, 2) := by decide +kernel
theorem dL_fill_19 : decode cL_fill 19 = .ok (.iconst 2, 1) := by decide +kernel
theorem dL_fill_20 : decode cL_fill 20 = .ok (.ireturn, 1) := by decide +kernel
theorem dL_fill_21 : decode cL_fill 21 = .ok (.astore 4, 2) := by decide +kernel
theorem dL_fill_23 : decode cL_fill 23 = .ok (.iconst 3, 1) := by decide +kernel
theorem dL_fill_24 : decode cL_fill 24 = .ok (.ireturn, 1) := by decide +kernel
theorem dL_fill_25 : decode cL_fill 25 = .ok (.iconst 0, 1) := by decide +kernel
theorem dL_fill_26 : decode cL_fill 26 = .ok (.ireturn, 1) := by decide +kernel
set_option maxRecDepth 20000 in
theorem ggL_undo_X4_undo : GoodIn wsL_undo wsX4_undo := goodIn_ca (goodIn_r _ [6, 7, 8, 9, 10, 11, 12, 13, 14, 15, 16, 17, 18, 19, 20, 21, 22, 23, 24, 25, 26, 27, 28, 29, 30] (by decide +kernel) (by decide +kernel)) (goodIn_sub (fun _ h => List.mem_cons_of_mem _ (List.mem_append_right _ h)) (by decide +kernel))
set_option maxRecDepth 20000 in
theorem gL_undo_X4_undo : GoodIn wsL_undo (wsV RL 29 RX4 yX4_undo wsX4_undo) := goodIn_app (goodIn_of _ (by decide +kernel)) ggL_undo_X4_undo
theorem dL_undo_0 : decode cL_undo 0 = .ok (.aload_n 1, 1) := by decide +kernel
theorem dL_undo_1 : decode cL_undo 1 = .ok (.iconst 0, 1) := by decide +kernel
theorem dL_undo_2 : decode cL_undo 2 = .ok (.aload_n 0, 1) := by decide +kernel
theorem dL_undo_3 : decode cL_undo 3 = .ok (.invokevirtual 29, 3) := by decide +kernel
theorem dL_undo_6 : decode cL_undo 6 = .ok (.i2l, 1) := by decide +kernel
theorem dL_undo_7 : decode cL_undo 7 = .ok (.lastore, 1) := by decide +kernel
theorem dL_undo_8 : decode cL_undo 8 = .ok (.goto 6, 3) := by decide +kernel
theorem dL_undo_11 : decode cL_undo 11 = .ok (.astore_n 2, 1) := by decide +kernel
theorem dL_undo_12 : decode cL_undo 12 = .ok (.iconst 1, 1) := by decide +kernel
theorem dL_undo_13 : decode cL_undo 13 = .ok (.ireturn, 1) := by decide +kernel
theorem dL_undo_14 : decode cL_undo 14 = .ok (.iconst 0, 1) := by decide +kernel
theorem dL_undo_15 : decode cL_undo 15 = .ok (.ireturn, 1) := by decide +kernel
set_option maxRecDepth 20000 in
theorem ggL_run_X4_run : GoodIn wsL_run wsX4_run := goodIn_ca (goodIn_r _ [6, 7, 8, 9, 10, 11, 5, 12, 13, 14, 15, 16, 17, 18, 19, 20, 21, 22, 23, 24, 25, 26, 27, 28, 29, 30, 31, 32, 33, 34, 35, 36, 37, 38, 39, 40, 41, 42, 43, 44, 45, 46, 47, 48, 49, 50, 51, 52, 53, 54, 55, 56, 57, 58, 59, 60, 61, 62, 63, 64, 65, 66, 67, 68, 69, 70, 71, 72, 73, 74, 75, 76, 77, 78, 79, 80, 81, 82, 83, 84, 85, 86, 87, 88, 89, 90, 91, 92, 93, 94, 95, 96, 97, 98, 99, 100, 101, 102, 103, 104, 105, 106, 107, 108, 109, 110, 111, 112, 113, 114, 115, 116, 117, 118, 119, 120, 121, 122, 123, 124, 125, 126, 127, 128, 129, 130, 131, 132, 133, 134, 135, 136, 137] (by decide +kernel) (by decide +kernel)) (goodIn_sub (fun _ h => List.mem_cons_of_mem _ (List.mem_append_right _ h)) (by decide +kernel))
set_option maxRecDepth 20000 in
theorem gL_run_X4_run : GoodIn wsL_run (wsV RL 33 RX4 yX4_run wsX4_run) := goodIn_app (goodIn_of _ (by decide +kernel)) ggL_run_X4_run
theorem dL_run_0 : decode cL_run 0 = .ok (.aload_n 2, 1) := by decide +kernel
theorem dL_run_1 : decode cL_run 1 = .ok (.iconst 0, 1) := by decide +kernel
theorem dL_run_2 : decode cL_run 2 = .ok (.aload_n 0, 1) := by decide +kernel
theorem dL_run_3 : decode cL_run 3 = .ok (.iload_n 1, 1) := by decide +kernel
theorem dL_run_4 : decode cL_run 4 = .ok (.invokevirtual 33, 3) := by decide +kernel
theorem dL_run_7 : decode cL_run 7 = .ok (.i2l, 1) := by decide +kernel
theorem dL_run_8 : decode cL_run 8 = .ok (.lastore, 1) := by decide +kernel
theorem dL_run_9 : decode cL_run 9 = .ok (.goto 6, 3) := by decide +kernel
theorem dL_run_12 : decode cL_run 12 = .ok (.astore_n 3, 1) := by decide +kernel
theorem dL_run_13 : decode cL_run 13 = .ok (.iconst 1, 1) := by decide +kernel
theorem dL_run_14 : decode cL_run 14 = .ok (.ireturn, 1) := by decide +kernel
theorem dL_run_15 : decode cL_run 15 = .ok (.iconst 0, 1) := by decide +kernel
theorem dL_run_16 : decode cL_run 16 = .ok (.ireturn, 1) := by decide +kernel
set_option maxRecDepth 20000 in
theorem ggL_at_X4_at : GoodIn wsL_at wsX4_at := goodIn_ca (goodIn_r _ [6, 7, 8, 9, 10, 5, 11, 12, 13, 14, 15, 16, 17, 18, 19, 20, 21, 22, 23, 24, 25, 26, 27, 28, 29, 30, 31, 32, 33, 34, 35, 36, 37, 38, 39, 40, 41, 42, 43, 44, 45, 46] (by decide +kernel) (by decide +kernel)) (goodIn_sub (fun _ h => List.mem_cons_of_mem _ (List.mem_append_right _ h)) (by decide +kernel))
set_option maxRecDepth 20000 in
theorem gL_at_X4_at : GoodIn wsL_at (wsV RL 36 RX4 yX4_at wsX4_at) := goodIn_app (goodIn_of _ (by decide +kernel)) ggL_at_X4_at
theorem dL_at_0 : decode cL_at 0 = .ok (.aload_n 2, 1) := by decide +kernel
theorem dL_at_1 : decode cL_at 1 = .ok (.iconst 0, 1) := by decide +kernel
theorem dL_at_2 : decode cL_at 2 = .ok (.aload_n 0, 1) := by decide +kernel
theorem dL_at_3 : decode cL_at 3 = .ok (.iload_n 1, 1) := by decide +kernel
theorem dL_at_4 : decode cL_at 4 = .ok (.invokevirtual 36, 3) := by decide +kernel
theorem dL_at_7 : decode cL_at 7 = .ok (.i2l, 1) := by decide +kernel
theorem dL_at_8 : decode cL_at 8 = .ok (.lastore, 1) := by decide +kernel
theorem dL_at_9 : decode cL_at 9 = .ok (.goto 6, 3) := by decide +kernel
theorem dL_at_12 : decode cL_at 12 = .ok (.astore_n 3, 1) := by decide +kernel
theorem dL_at_13 : decode cL_at 13 = .ok (.iconst 1, 1) := by decide +kernel
theorem dL_at_14 : decode cL_at 14 = .ok (.ireturn, 1) := by decide +kernel
theorem dL_at_15 : decode cL_at 15 = .ok (.iconst 0, 1) := by decide +kernel
theorem dL_at_16 : decode cL_at 16 = .ok (.ireturn, 1) := by decide +kernel
set_option maxRecDepth 20000 in
theorem ggL_isClue_X4_isClue : GoodIn wsL_isClue wsX4_isClue := goodIn_ca (goodIn_r _ [6, 7, 8, 9, 10, 5, 11, 12, 13, 14, 15, 16, 17, 18, 19, 20, 21, 22, 23, 24, 25, 26, 27, 28, 29, 30, 31, 32, 33, 34, 35, 36, 37, 38, 39, 40, 41, 42, 43, 44, 45, 46, 47] (by decide +kernel) (by decide +kernel)) (goodIn_sub (fun _ h => List.mem_cons_of_mem _ (List.mem_append_right _ h)) (by decide +kernel))
set_option maxRecDepth 20000 in
theorem gL_isClue_X4_isClue : GoodIn wsL_isClue (wsV RL 39 RX4 yX4_isClue wsX4_isClue) := goodIn_app (goodIn_of _ (by decide +kernel)) ggL_isClue_X4_isClue
theorem dL_isClue_0 : decode cL_isClue 0 = .ok (.aload_n 2, 1) := by decide +kernel
theorem dL_isClue_1 : decode cL_isClue 1 = .ok (.iconst 0, 1) := by decide +kernel
theorem dL_isClue_2 : decode cL_isClue 2 = .ok (.aload_n 0, 1) := by decide +kernel
theorem dL_isClue_3 : decode cL_isClue 3 = .ok (.iload_n 1, 1) := by decide +kernel
theorem dL_isClue_4 : decode cL_isClue 4 = .ok (.invokevirtual 39, 3) := by decide +kernel
theorem dL_isClue_7 : decode cL_isClue 7 = .ok (.ifCond .eq 7, 3) := by decide +kernel
theorem dL_isClue_10 : decode cL_isClue 10 = .ok (.lconst 1, 1) := by decide +kernel
theorem dL_isClue_11 : decode cL_isClue 11 = .ok (.goto 4, 3) := by decide +kernel
theorem dL_isClue_14 : decode cL_isClue 14 = .ok (.lconst 0, 1) := by decide +kernel
theorem dL_isClue_15 : decode cL_isClue 15 = .ok (.lastore, 1) := by decide +kernel
theorem dL_isClue_16 : decode cL_isClue 16 = .ok (.goto 6, 3) := by decide +kernel
theorem dL_isClue_19 : decode cL_isClue 19 = .ok (.astore_n 3, 1) := by decide +kernel
theorem dL_isClue_20 : decode cL_isClue 20 = .ok (.iconst 1, 1) := by decide +kernel
theorem dL_isClue_21 : decode cL_isClue 21 = .ok (.ireturn, 1) := by decide +kernel
theorem dL_isClue_22 : decode cL_isClue 22 = .ok (.iconst 0, 1) := by decide +kernel
theorem dL_isClue_23 : decode cL_isClue 23 = .ok (.ireturn, 1) := by decide +kernel
set_option maxRecDepth 20000 in
theorem ggL_size_X4_size : GoodIn wsL_size wsX4_size := goodIn_ca (goodIn_r _ [6, 7, 8, 9, 10, 5, 11, 12, 13, 14, 15, 16, 17, 18, 19, 20, 21, 22, 23, 24, 25, 26, 27, 28, 29, 30, 31, 32, 33, 34, 35, 36, 37, 38, 39, 40, 41, 42, 43, 44, 45, 46, 47, 48, 49, 50, 51, 52, 53, 54, 55, 56, 57, 58, 59, 60, 61, 62, 63, 64, 65, 66] (by decide +kernel) (by decide +kernel)) (goodIn_sub (fun _ h => List.mem_cons_of_mem _ (List.mem_append_right _ h)) (by decide +kernel))
set_option maxRecDepth 20000 in
theorem gL_size_X4_size : GoodIn wsL_size (wsV RL 43 RX4 yX4_size wsX4_size) := goodIn_app (goodIn_of _ (by decide +kernel)) ggL_size_X4_size
theorem dL_size_0 : decode cL_size 0 = .ok (.aload_n 2, 1) := by decide +kernel
theorem dL_size_1 : decode cL_size 1 = .ok (.iconst 0, 1) := by decide +kernel
theorem dL_size_2 : decode cL_size 2 = .ok (.aload_n 0, 1) := by decide +kernel
theorem dL_size_3 : decode cL_size 3 = .ok (.iload_n 1, 1) := by decide +kernel
theorem dL_size_4 : decode cL_size 4 = .ok (.invokevirtual 43, 3) := by decide +kernel
theorem dL_size_7 : decode cL_size 7 = .ok (.i2l, 1) := by decide +kernel
theorem dL_size_8 : decode cL_size 8 = .ok (.lastore, 1) := by decide +kernel
theorem dL_size_9 : decode cL_size 9 = .ok (.goto 6, 3) := by decide +kernel
theorem dL_size_12 : decode cL_size 12 = .ok (.astore_n 3, 1) := by decide +kernel
theorem dL_size_13 : decode cL_size 13 = .ok (.iconst 1, 1) := by decide +kernel
theorem dL_size_14 : decode cL_size 14 = .ok (.ireturn, 1) := by decide +kernel
theorem dL_size_15 : decode cL_size 15 = .ok (.iconst 0, 1) := by decide +kernel
theorem dL_size_16 : decode cL_size 16 = .ok (.ireturn, 1) := by decide +kernel
set_option maxRecDepth 20000 in
theorem ggL_room_X4_room : GoodIn wsL_room wsX4_room := goodIn_ca (goodIn_r _ [6, 7, 8, 9, 10, 5, 11, 12, 13, 14, 15, 16, 17, 18, 19, 20, 21, 22, 23, 24, 25, 26, 27, 28, 29, 30, 31, 32, 33, 34, 35, 36, 37, 38, 39, 40, 41, 42, 43, 44, 45, 46, 47, 48, 49, 50, 51, 52, 53, 54, 55, 56, 57, 58, 59, 60, 61, 62, 63, 64, 65, 66, 67, 68, 69, 70] (by decide +kernel) (by decide +kernel)) (goodIn_sub (fun _ h => List.mem_cons_of_mem _ (List.mem_append_right _ h)) (by decide +kernel))
set_option maxRecDepth 20000 in
theorem gL_room_X4_room : GoodIn wsL_room (wsV RL 46 RX4 yX4_room wsX4_room) := goodIn_app (goodIn_of _ (by decide +kernel)) ggL_room_X4_room
theorem dL_room_0 : decode cL_room 0 = .ok (.aload_n 2, 1) := by decide +kernel
theorem dL_room_1 : decode cL_room 1 = .ok (.iconst 0, 1) := by decide +kernel
theorem dL_room_2 : decode cL_room 2 = .ok (.aload_n 0, 1) := by decide +kernel
theorem dL_room_3 : decode cL_room 3 = .ok (.iload_n 1, 1) := by decide +kernel
theorem dL_room_4 : decode cL_room 4 = .ok (.invokevirtual 46, 3) := by decide +kernel
theorem dL_room_7 : decode cL_room 7 = .ok (.i2l, 1) := by decide +kernel
theorem dL_room_8 : decode cL_room 8 = .ok (.lastore, 1) := by decide +kernel
theorem dL_room_9 : decode cL_room 9 = .ok (.goto 6, 3) := by decide +kernel
theorem dL_room_12 : decode cL_room 12 = .ok (.astore_n 3, 1) := by decide +kernel
theorem dL_room_13 : decode cL_room 13 = .ok (.iconst 1, 1) := by decide +kernel
theorem dL_room_14 : decode cL_room 14 = .ok (.ireturn, 1) := by decide +kernel
theorem dL_room_15 : decode cL_room 15 = .ok (.iconst 0, 1) := by decide +kernel
theorem dL_room_16 : decode cL_room 16 = .ok (.ireturn, 1) := by decide +kernel
set_option maxRecDepth 20000 in
theorem ggL_canBe_X4_canBe : GoodIn wsL_canBe wsX4_canBe := goodIn_ca (goodIn_ca (goodIn_r _ [7, 8, 9, 10, 11, 6, 12, 13, 14, 15, 16, 17, 18, 19, 20, 21, 22, 23, 24, 25, 26, 27, 28, 29, 30, 31, 32, 33, 34, 35, 36, 37, 38, 39, 40, 41, 42, 43, 44, 45, 46, 47, 48, 49, 50, 51, 52, 53, 54, 55, 56, 57, 58, 59, 60, 61, 62, 63, 64, 65, 66, 67, 68, 69, 70, 71, 72, 73, 74, 75, 76, 77, 78, 79, 80, 81, 82, 83, 84, 85, 86, 87, 88, 89, 90] (by decide +kernel) (by decide +kernel)) (goodIn_sub (fun _ h => List.mem_cons_of_mem _ (List.mem_append_left _ (List.mem_append_right _ h))) (by decide +kernel))) (goodIn_sub (fun _ h => List.mem_cons_of_mem _ (List.mem_append_right _ h)) (by decide +kernel))
set_option maxRecDepth 20000 in
theorem gL_canBe_X4_canBe : GoodIn wsL_canBe (wsV RL 49 RX4 yX4_canBe wsX4_canBe) := goodIn_app (goodIn_of _ (by decide +kernel)) ggL_canBe_X4_canBe
theorem dL_canBe_0 : decode cL_canBe 0 = .ok (.aload_n 3, 1) := by decide +kernel
theorem dL_canBe_1 : decode cL_canBe 1 = .ok (.iconst 0, 1) := by decide +kernel
theorem dL_canBe_2 : decode cL_canBe 2 = .ok (.aload_n 0, 1) := by decide +kernel
theorem dL_canBe_3 : decode cL_canBe 3 = .ok (.iload_n 1, 1) := by decide +kernel
theorem dL_canBe_4 : decode cL_canBe 4 = .ok (.iload_n 2, 1) := by decide +kernel
theorem dL_canBe_5 : decode cL_canBe 5 = .ok (.invokevirtual 49, 3) := by decide +kernel
theorem dL_canBe_8 : decode cL_canBe 8 = .ok (.ifCond .eq 7, 3) := by decide +kernel
theorem dL_canBe_11 : decode cL_canBe 11 = .ok (.lconst 1, 1) := by decide +kernel
theorem dL_canBe_12 : decode cL_canBe 12 = .ok (.goto 4, 3) := by decide +kernel
theorem dL_canBe_15 : decode cL_canBe 15 = .ok (.lconst 0, 1) := by decide +kernel
theorem dL_canBe_16 : decode cL_canBe 16 = .ok (.lastore, 1) := by decide +kernel
theorem dL_canBe_17 : decode cL_canBe 17 = .ok (.goto 11, 3) := by decide +kernel
theorem dL_canBe_20 : decode cL_canBe 20 = .ok (.astore 4, 2) := by decide +kernel
theorem dL_canBe_22 : decode cL_canBe 22 = .ok (.iconst 1, 1) := by decide +kernel
theorem dL_canBe_23 : decode cL_canBe 23 = .ok (.ireturn, 1) := by decide +kernel
theorem dL_canBe_24 : decode cL_canBe 24 = .ok (.astore 4, 2) := by decide +kernel
theorem dL_canBe_26 : decode cL_canBe 26 = .ok (.iconst 2, 1) := by decide +kernel
theorem dL_canBe_27 : decode cL_canBe 27 = .ok (.ireturn, 1) := by decide +kernel
theorem dL_canBe_28 : decode cL_canBe 28 = .ok (.iconst 0, 1) := by decide +kernel
theorem dL_canBe_29 : decode cL_canBe 29 = .ok (.ireturn, 1) := by decide +kernel
set_option maxRecDepth 20000 in
theorem ggL_isHidden_X4_isHidden : GoodIn wsL_isHidden wsX4_isHidden := goodIn_ca (goodIn_r _ [6, 7, 8, 9, 10, 5, 11, 12, 13, 14, 15, 16, 17, 18, 19, 20, 21, 22, 23, 24, 25, 26, 27, 28, 29, 30, 31, 32, 33, 34, 35, 36, 37, 38, 39, 40, 41, 42, 43, 44, 45, 46, 47, 48, 49, 50, 51, 52, 53, 54, 55, 56, 57, 58, 59, 60, 61, 62, 63, 64, 65, 66, 67] (by decide +kernel) (by decide +kernel)) (goodIn_sub (fun _ h => List.mem_cons_of_mem _ (List.mem_append_right _ h)) (by decide +kernel))
set_option maxRecDepth 20000 in
theorem gL_isHidden_X4_isHidden : GoodIn wsL_isHidden (wsV RL 53 RX4 yX4_isHidden wsX4_isHidden) := goodIn_app (goodIn_of _ (by decide +kernel)) ggL_isHidden_X4_isHidden
theorem dL_isHidden_0 : decode cL_isHidden 0 = .ok (.aload_n 2, 1) := by decide +kernel
theorem dL_isHidden_1 : decode cL_isHidden 1 = .ok (.iconst 0, 1) := by decide +kernel
theorem dL_isHidden_2 : decode cL_isHidden 2 = .ok (.aload_n 0, 1) := by decide +kernel
theorem dL_isHidden_3 : decode cL_isHidden 3 = .ok (.iload_n 1, 1) := by decide +kernel
theorem dL_isHidden_4 : decode cL_isHidden 4 = .ok (.invokevirtual 53, 3) := by decide +kernel
theorem dL_isHidden_7 : decode cL_isHidden 7 = .ok (.ifCond .eq 7, 3) := by decide +kernel
theorem dL_isHidden_10 : decode cL_isHidden 10 = .ok (.lconst 1, 1) := by decide +kernel
theorem dL_isHidden_11 : decode cL_isHidden 11 = .ok (.goto 4, 3) := by decide +kernel
theorem dL_isHidden_14 : decode cL_isHidden 14 = .ok (.lconst 0, 1) := by decide +kernel
theorem dL_isHidden_15 : decode cL_isHidden 15 = .ok (.lastore, 1) := by decide +kernel
theorem dL_isHidden_16 : decode cL_isHidden 16 = .ok (.goto 6, 3) := by decide +kernel
theorem dL_isHidden_19 : decode cL_isHidden 19 = .ok (.astore_n 3, 1) := by decide +kernel
theorem dL_isHidden_20 : decode cL_isHidden 20 = .ok (.iconst 1, 1) := by decide +kernel
theorem dL_isHidden_21 : decode cL_isHidden 21 = .ok (.ireturn, 1) := by decide +kernel
theorem dL_isHidden_22 : decode cL_isHidden 22 = .ok (.iconst 0, 1) := by decide +kernel
theorem dL_isHidden_23 : decode cL_isHidden 23 = .ok (.ireturn, 1) := by decide +kernel
set_option maxRecDepth 20000 in
theorem ggL_shapes_X4_shapes : GoodIn wsL_shapes wsX4_shapes := goodIn_ca (goodIn_r _ [6, 7, 8, 9, 10, 11, 5, 12, 13, 14, 15, 16, 17, 18, 19, 20, 21, 22, 23, 24, 25, 26, 27, 28, 29, 30, 31, 32, 33, 34, 35, 36, 37, 38, 39, 40, 41, 42, 43, 44, 45, 46, 47, 48, 49, 50, 51, 52, 53, 54, 55, 56, 57, 58, 59, 60, 61, 62, 63, 64, 65, 66, 67, 68, 69, 70, 71, 72, 73, 74, 75, 76, 77, 78, 79, 80, 81, 82, 83, 84, 85, 86, 87, 88, 89, 90, 91, 92, 93, 94, 95, 96, 97] (by decide +kernel) (by decide +kernel)) (goodIn_sub (fun _ h => List.mem_cons_of_mem _ (List.mem_append_right _ h)) (by decide +kernel))
set_option maxRecDepth 20000 in
theorem gL_shapes_X4_shapes : GoodIn wsL_shapes (wsV RL 56 RX4 yX4_shapes wsX4_shapes) := goodIn_app (goodIn_of _ (by decide +kernel)) ggL_shapes_X4_shapes
theorem dL_shapes_0 : decode cL_shapes 0 = .ok (.aload_n 2, 1) := by decide +kernel
theorem dL_shapes_1 : decode cL_shapes 1 = .ok (.iconst 0, 1) := by decide +kernel
theorem dL_shapes_2 : decode cL_shapes 2 = .ok (.aload_n 0, 1) := by decide +kernel
theorem dL_shapes_3 : decode cL_shapes 3 = .ok (.iload_n 1, 1) := by decide +kernel
theorem dL_shapes_4 : decode cL_shapes 4 = .ok (.invokevirtual 56, 3) := by decide +kernel
theorem dL_shapes_7 : decode cL_shapes 7 = .ok (.i2l, 1) := by decide +kernel
theorem dL_shapes_8 : decode cL_shapes 8 = .ok (.lastore, 1) := by decide +kernel
theorem dL_shapes_9 : decode cL_shapes 9 = .ok (.goto 6, 3) := by decide +kernel
theorem dL_shapes_12 : decode cL_shapes 12 = .ok (.astore_n 3, 1) := by decide +kernel
theorem dL_shapes_13 : decode cL_shapes 13 = .ok (.iconst 1, 1) := by decide +kernel
theorem dL_shapes_14 : decode cL_shapes 14 = .ok (.ireturn, 1) := by decide +kernel
theorem dL_shapes_15 : decode cL_shapes 15 = .ok (.iconst 0, 1) := by decide +kernel
theorem dL_shapes_16 : decode cL_shapes 16 = .ok (.ireturn, 1) := by decide +kernel
set_option maxRecDepth 20000 in
theorem ggL_shapesWith_X4_shapesWith : GoodIn wsL_shapesWith wsX4_shapesWith := goodIn_ca (goodIn_r _ [6, 7, 8, 9, 10, 11, 5, 12, 13, 14, 15, 16, 17, 18, 19, 20, 21, 22, 23, 24, 25, 26, 27, 28, 29, 30, 31, 32, 33, 34, 35, 36, 37, 38, 39, 40, 41, 42, 43, 44, 45, 46, 47, 48, 49, 50, 51, 52, 53, 54, 55, 56, 57, 58, 59, 60, 61, 62, 63, 64, 65, 66, 67, 68, 69, 70, 71, 72, 73, 74, 75, 76, 77, 78, 79, 80, 81, 82, 83, 84, 85, 86, 87, 88, 89, 90, 91, 92, 93, 94, 95, 96, 97, 98, 99, 100] (by decide +kernel) (by decide +kernel)) (goodIn_sub (fun _ h => List.mem_cons_of_mem _ (List.mem_append_right _ h)) (by decide +kernel))
set_option maxRecDepth 20000 in
theorem gL_shapesWith_X4_shapesWith : GoodIn wsL_shapesWith (wsV RL 59 RX4 yX4_shapesWith wsX4_shapesWith) := goodIn_app (goodIn_of _ (by decide +kernel)) ggL_shapesWith_X4_shapesWith
theorem dL_shapesWith_0 : decode cL_shapesWith 0 = .ok (.aload_n 3, 1) := by decide +kernel
theorem dL_shapesWith_1 : decode cL_shapesWith 1 = .ok (.iconst 0, 1) := by decide +kernel
theorem dL_shapesWith_2 : decode cL_shapesWith 2 = .ok (.aload_n 0, 1) := by decide +kernel
theorem dL_shapesWith_3 : decode cL_shapesWith 3 = .ok (.iload_n 1, 1) := by decide +kernel
theorem dL_shapesWith_4 : decode cL_shapesWith 4 = .ok (.iload_n 2, 1) := by decide +kernel
theorem dL_shapesWith_5 : decode cL_shapesWith 5 = .ok (.invokevirtual 59, 3) := by decide +kernel
theorem dL_shapesWith_8 : decode cL_shapesWith 8 = .ok (.i2l, 1) := by decide +kernel
theorem dL_shapesWith_9 : decode cL_shapesWith 9 = .ok (.lastore, 1) := by decide +kernel
theorem dL_shapesWith_10 : decode cL_shapesWith 10 = .ok (.goto 7, 3) := by decide +kernel
theorem dL_shapesWith_13 : decode cL_shapesWith 13 = .ok (.astore 4, 2) := by decide +kernel
theorem dL_shapesWith_15 : decode cL_shapesWith 15 = .ok (.iconst 1, 1) := by decide +kernel
theorem dL_shapesWith_16 : decode cL_shapesWith 16 = .ok (.ireturn, 1) := by decide +kernel
theorem dL_shapesWith_17 : decode cL_shapesWith 17 = .ok (.iconst 0, 1) := by decide +kernel
theorem dL_shapesWith_18 : decode cL_shapesWith 18 = .ok (.ireturn, 1) := by decide +kernel
set_option maxRecDepth 20000 in
theorem ggL_solutions_X4_solutions : GoodIn wsL_solutions wsX4_solutions := goodIn_ca (goodIn_r _ [6, 7, 8, 9, 10, 11, 12, 13, 14, 15, 16, 17, 18, 19, 20, 21, 22, 23, 24, 25, 26, 27, 28, 29, 30, 31, 32, 33, 34, 35, 36, 37, 38, 39, 40, 41, 42, 43, 44, 45, 46, 47, 48, 49, 50, 51, 52, 53, 54, 55, 56, 57, 58, 59, 60, 61, 62, 63, 64, 65, 66, 67, 68, 69, 70, 71, 72, 73, 74, 75, 76, 77, 78, 79, 80, 81, 82, 83, 84, 85, 86, 87, 88, 89, 90, 91] (by decide +kernel) (by decide +kernel)) (goodIn_sub (fun _ h => List.mem_cons_of_mem _ (List.mem_append_right _ h)) (by decide +kernel))
set_option maxRecDepth 20000 in
theorem gL_solutions_X4_solutions : GoodIn wsL_solutions (wsV RL 62 RX4 yX4_solutions wsX4_solutions) := goodIn_app (goodIn_of _ (by decide +kernel)) ggL_solutions_X4_solutions
theorem dL_solutions_0 : decode cL_solutions 0 = .ok (.aload_n 2, 1) := by decide +kernel
theorem dL_solutions_1 : decode cL_solutions 1 = .ok (.iconst 0, 1) := by decide +kernel
theorem dL_solutions_2 : decode cL_solutions 2 = .ok (.aload_n 0, 1) := by decide +kernel
theorem dL_solutions_3 : decode cL_solutions 3 = .ok (.iload_n 1, 1) := by decide +kernel
theorem dL_solutions_4 : decode cL_solutions 4 = .ok (.invokevirtual 62, 3) := by decide +kernel
theorem dL_solutions_7 : decode cL_solutions 7 = .ok (.i2l, 1) := by decide +kernel
theorem dL_solutions_8 : decode cL_solutions 8 = .ok (.lastore, 1) := by decide +kernel
theorem dL_solutions_9 : decode cL_solutions 9 = .ok (.goto 6, 3) := by decide +kernel
theorem dL_solutions_12 : decode cL_solutions 12 = .ok (.astore_n 3, 1) := by decide +kernel
