theorem dX4_isHidden_6 : decode cX4_isHidden 6 = .ok (.getfield 18, 3) := by decide +kernel
theorem dX4_isHidden_9 : decode cX4_isHidden 9 = .ok (.invokevirtual 142, 3) := by decide +kernel
theorem dX4_isHidden_12 : decode cX4_isHidden 12 = .ok (.iload_n 1, 1) := by decide +kernel
theorem dX4_isHidden_13 : decode cX4_isHidden 13 = .ok (.invokestatic 145, 3) := by decide +kernel
theorem dX4_isHidden_16 : decode cX4_isHidden 16 = .ok (.ireturn, 1) := by decide +kernel
set_option maxRecDepth 20000 in
theorem ggX4_shapes_X4_requireCell : GoodIn wsX4_shapes wsX4_requireCell := goodIn_ca (goodIn_r _ [7, 8, 9, 2, 10, 11, 12, 13, 14, 15, 16, 17, 18, 19, 20, 21, 79, 80, 81, 82, 83, 84, 88, 89, 90, 91, 92] (by decide +kernel) (by decide +kernel)) (goodIn_sub (fun _ h => List.mem_cons_of_mem _ (List.mem_append_right _ h)) (by decide +kernel))
set_option maxRecDepth 20000 in
theorem gX4_shapes_X4_requireCell : GoodIn wsX4_shapes (wsV RX4 64 RX4 yX4_requireCell wsX4_requireCell) := goodIn_app (goodIn_of _ (by decide +kernel)) ggX4_shapes_X4_requireCell
set_option maxRecDepth 20000 in
theorem ggX4_shapes_X2_list : GoodIn wsX4_shapes wsX2_list := goodIn_r _ [25, 26, 27, 28, 23, 29, 30, 31, 32, 33, 11, 34, 35, 36, 37, 38, 39, 40, 41, 42, 43, 44, 45, 46, 47, 48, 49, 50, 51, 52, 53, 54, 55, 56, 57, 58, 59, 60, 61, 14, 62, 63, 64, 65, 66, 67, 68, 69, 70, 71, 15, 16, 17, 18, 19, 20, 21, 72, 73, 74, 75, 76, 77, 78, 85, 86, 87, 88, 89, 90, 91, 92] (by decide +kernel) (by decide +kernel)
set_option maxRecDepth 20000 in
theorem gX4_shapes_X2_list_n148 : GoodIn wsX4_shapes (wsX2_list) := ggX4_shapes_X2_list
theorem dX4_shapes_0 : decode cX4_shapes 0 = .ok (.aload_n 0, 1) := by decide +kernel
theorem dX4_shapes_1 : decode cX4_shapes 1 = .ok (.iload_n 1, 1) := by decide +kernel
theorem dX4_shapes_2 : decode cX4_shapes 2 = .ok (.invokevirtual 64, 3) := by decide +kernel
theorem dX4_shapes_5 : decode cX4_shapes 5 = .ok (.aload_n 0, 1) := by decide +kernel
theorem dX4_shapes_6 : decode cX4_shapes 6 = .ok (.getfield 32, 3) := by decide +kernel
theorem dX4_shapes_9 : decode cX4_shapes 9 = .ok (.aload_n 0, 1) := by decide +kernel
theorem dX4_shapes_10 : decode cX4_shapes 10 = .ok (.getfield 18, 3) := by decide +kernel
theorem dX4_shapes_13 : decode cX4_shapes 13 = .ok (.iload_n 1, 1) := by decide +kernel
theorem dX4_shapes_14 : decode cX4_shapes 14 = .ok (.invokevirtual 148, 3) := by decide +kernel
theorem dX4_shapes_17 : decode cX4_shapes 17 = .ok (.aload_n 0, 1) := by decide +kernel
theorem dX4_shapes_18 : decode cX4_shapes 18 = .ok (.getfield 32, 3) := by decide +kernel
theorem dX4_shapes_21 : decode cX4_shapes 21 = .ok (.getfield 152, 3) := by decide +kernel
theorem dX4_shapes_24 : decode cX4_shapes 24 = .ok (.ireturn, 1) := by decide +kernel
set_option maxRecDepth 20000 in
theorem ggX4_shapesWith_X4_requireCell : GoodIn wsX4_shapesWith wsX4_requireCell := goodIn_ca (goodIn_r _ [7, 8, 9, 2, 10, 11, 12, 13, 14, 15, 16, 17, 18, 19, 20, 21, 82, 83, 84, 85, 86, 87, 88, 89, 90, 91, 92] (by decide +kernel) (by decide +kernel)) (goodIn_sub (fun _ h => List.mem_cons_of_mem _ (List.mem_append_right _ h)) (by decide +kernel))
set_option maxRecDepth 20000 in
theorem gX4_shapesWith_X4_requireCell : GoodIn wsX4_shapesWith (wsV RX4 64 RX4 yX4_requireCell wsX4_requireCell) := goodIn_app (goodIn_of _ (by decide +kernel)) ggX4_shapesWith_X4_requireCell
set_option maxRecDepth 20000 in
theorem ggX4_shapesWith_X2_list : GoodIn wsX4_shapesWith wsX2_list := goodIn_r _ [25, 26, 27, 28, 23, 29, 30, 31, 32, 33, 11, 34, 35, 36, 37, 38, 39, 40, 41, 42, 43, 44, 45, 46, 47, 48, 49, 50, 51, 52, 53, 54, 55, 56, 57, 58, 59, 60, 61, 14, 62, 63, 64, 65, 66, 67, 68, 69, 70, 71, 15, 16, 17, 18, 19, 20, 21, 72, 73, 74, 75, 76, 77, 78, 93, 94, 95, 88, 89, 90, 91, 92] (by decide +kernel) (by decide +kernel)
set_option maxRecDepth 20000 in
theorem gX4_shapesWith_X2_list_n148 : GoodIn wsX4_shapesWith (wsX2_list) := ggX4_shapesWith_X2_list
set_option maxRecDepth 20000 in
theorem ggX4_shapesWith_X2_countOfThoseWith : GoodIn wsX4_shapesWith wsX2_countOfThoseWith := goodIn_r _ [81, 32, 93, 94, 95] (by decide +kernel) (by decide +kernel)
set_option maxRecDepth 20000 in
theorem gX4_shapesWith_X2_countOfThoseWith_n155 : GoodIn wsX4_shapesWith (wsX2_countOfThoseWith) := ggX4_shapesWith_X2_countOfThoseWith
theorem dX4_shapesWith_0 : decode cX4_shapesWith 0 = .ok (.aload_n 0, 1) := by decide +kernel
theorem dX4_shapesWith_1 : decode cX4_shapesWith 1 = .ok (.iload_n 1, 1) := by decide +kernel
theorem dX4_shapesWith_2 : decode cX4_shapesWith 2 = .ok (.invokevirtual 64, 3) := by decide +kernel
theorem dX4_shapesWith_5 : decode cX4_shapesWith 5 = .ok (.aload_n 0, 1) := by decide +kernel
theorem dX4_shapesWith_6 : decode cX4_shapesWith 6 = .ok (.iload_n 2, 1) := by decide +kernel
theorem dX4_shapesWith_7 : decode cX4_shapesWith 7 = .ok (.invokevirtual 64, 3) := by decide +kernel
theorem dX4_shapesWith_10 : decode cX4_shapesWith 10 = .ok (.aload_n 0, 1) := by decide +kernel
theorem dX4_shapesWith_11 : decode cX4_shapesWith 11 = .ok (.getfield 32, 3) := by decide +kernel
theorem dX4_shapesWith_14 : decode cX4_shapesWith 14 = .ok (.aload_n 0, 1) := by decide +kernel
theorem dX4_shapesWith_15 : decode cX4_shapesWith 15 = .ok (.getfield 18, 3) := by decide +kernel
theorem dX4_shapesWith_18 : decode cX4_shapesWith 18 = .ok (.iload_n 1, 1) := by decide +kernel
theorem dX4_shapesWith_19 : decode cX4_shapesWith 19 = .ok (.invokevirtual 148, 3) := by decide +kernel
theorem dX4_shapesWith_22 : decode cX4_shapesWith 22 = .ok (.aload_n 0, 1) := by decide +kernel
theorem dX4_shapesWith_23 : decode cX4_shapesWith 23 = .ok (.getfield 32, 3) := by decide +kernel
theorem dX4_shapesWith_26 : decode cX4_shapesWith 26 = .ok (.iload_n 2, 1) := by decide +kernel
theorem dX4_shapesWith_27 : decode cX4_shapesWith 27 = .ok (.invokevirtual 155, 3) := by decide +kernel
theorem dX4_shapesWith_30 : decode cX4_shapesWith 30 = .ok (.ireturn, 1) := by decide +kernel
set_option maxRecDepth 20000 in
theorem ggX4_isSolved_X0_emptyCells : GoodIn wsX4_isSolved wsX0_emptyCells := goodIn_r _ [5, 6, 7, 8, 3, 9, 10, 51, 52, 53, 54, 55] (by decide +kernel) (by decide +kernel)
set_option maxRecDepth 20000 in
theorem gX4_isSolved_X0_emptyCells_n106 : GoodIn wsX4_isSolved (wsX0_emptyCells) := ggX4_isSolved_X0_emptyCells
set_option maxRecDepth 20000 in
theorem ggX4_isSolved_X0_isSound : GoodIn wsX4_isSolved wsX0_isSound := goodIn_r _ [13, 14, 15, 16, 3, 17, 6, 7, 8, 9, 10, 18, 19, 20, 21, 22, 23, 24, 25, 26, 27, 28, 29, 30, 31, 32, 33, 34, 35, 36, 37, 38, 39, 40, 41, 42, 43, 44, 2, 4, 5, 51, 52, 53, 54, 55] (by decide +kernel) (by decide +kernel)
set_option maxRecDepth 20000 in
theorem gX4_isSolved_X0_isSound_n78 : GoodIn wsX4_isSolved (wsX0_isSound) := ggX4_isSolved_X0_isSound
theorem dX4_isSolved_0 : decode cX4_isSolved 0 = .ok (.aload_n 0, 1) := by decide +kernel
theorem dX4_isSolved_1 : decode cX4_isSolved 1 = .ok (.getfield 18, 3) := by decide +kernel
theorem dX4_isSolved_4 : decode cX4_isSolved 4 = .ok (.invokevirtual 106, 3) := by decide +kernel
theorem dX4_isSolved_7 : decode cX4_isSolved 7 = .ok (.ifCond .ne 17, 3) := by decide +kernel
theorem dX4_isSolved_10 : decode cX4_isSolved 10 = .ok (.aload_n 0, 1) := by decide +kernel
theorem dX4_isSolved_11 : decode cX4_isSolved 11 = .ok (.getfield 18, 3) := by decide +kernel
theorem dX4_isSolved_14 : decode cX4_isSolved 14 = .ok (.invokevirtual 78, 3) := by decide +kernel
theorem dX4_isSolved_17 : decode cX4_isSolved 17 = .ok (.ifCond .eq 7, 3) := by decide +kernel
theorem dX4_isSolved_20 : decode cX4_isSolved 20 = .ok (.iconst 1, 1) := by decide +kernel
theorem dX4_isSolved_21 : decode cX4_isSolved 21 = .ok (.goto 4, 3) := by decide +kernel
theorem dX4_isSolved_24 : decode cX4_isSolved 24 = .ok (.iconst 0, 1) := by decide +kernel
theorem dX4_isSolved_25 : decode cX4_isSolved 25 = .ok (.ireturn, 1) := by decide +kernel
set_option maxRecDepth 20000 in
theorem ggX4_solutions_X3_countSolutions : GoodIn wsX4_solutions wsX3_countSolutions := goodIn_r _ [6, 7, 8, 9, 10, 11, 12, 13, 14, 15, 16, 17, 18, 19, 20, 21, 22, 23, 24, 25, 26, 27, 28, 29, 30, 31, 32, 33, 34, 35, 36, 37, 38, 39, 40, 41, 42, 43, 44, 45, 46, 47, 48, 49, 50, 51, 52, 53, 54, 55, 56, 57, 58, 59, 60, 61, 62, 63, 64, 65, 66, 67, 68, 69, 70, 71, 72, 73, 74, 4, 5, 81, 82, 83, 84, 85] (by decide +kernel) (by decide +kernel)
set_option maxRecDepth 20000 in
theorem gX4_solutions_X3_countSolutions_n160 : GoodIn wsX4_solutions (wsX3_countSolutions) := ggX4_solutions_X3_countSolutions
theorem dX4_solutions_0 : decode cX4_solutions 0 = .ok (.iload_n 1, 1) := by decide +kernel
theorem dX4_solutions_1 : decode cX4_solutions 1 = .ok (.iconst 1, 1) := by decide +kernel
theorem dX4_solutions_2 : decode cX4_solutions 2 = .ok (.if_icmp .lt 8, 3) := by decide +kernel
theorem dX4_solutions_5 : decode cX4_solutions 5 = .ok (.iload_n 1, 1) := by decide +kernel
theorem dX4_solutions_6 : decode cX4_solutions 6 = .ok (.iconst 5, 1) := by decide +kernel
theorem dX4_solutions_7 : decode cX4_solutions 7 = .ok (.if_icmp .le 13, 3) := by decide +kernel
theorem dX4_solutions_10 : decode cX4_solutions 10 = .ok (.new 47, 3) := by decide +kernel
theorem dX4_solutions_13 : decode cX4_solutions 13 = .ok (.dup, 1) := by decide +kernel
theorem dX4_solutions_14 : decode cX4_solutions 14 = .ok (.ldc 158, 2) := by decide +kernel
theorem dX4_solutions_16 : decode cX4_solutions 16 = .ok (.invokespecial 51, 3) := by decide +kernel
theorem dX4_solutions_19 : decode cX4_solutions 19 = .ok (.athrow, 1) := by decide +kernel
theorem dX4_solutions_20 : decode cX4_solutions 20 = .ok (.aload_n 0, 1) := by decide +kernel
theorem dX4_solutions_21 : decode cX4_solutions 21 = .ok (.getfield 18, 3) := by decide +kernel
theorem dX4_solutions_24 : decode cX4_solutions 24 = .ok (.iconst 0, 1) := by decide +kernel
theorem dX4_solutions_25 : decode cX4_solutions 25 = .ok (.iload_n 1, 1) := by decide +kernel
theorem dX4_solutions_26 : decode cX4_solutions 26 = .ok (.invokestatic 160, 3) := by decide +kernel
theorem dX4_solutions_29 : decode cX4_solutions 29 = .ok (.ireturn, 1) := by decide +kernel
theorem dX4_isSide_0 : decode cX4_isSide 0 = .ok (.iload_n 0, 1) := by decide +kernel
theorem dX4_isSide_1 : decode cX4_isSide 1 = .ok (.iconst 2, 1) := by decide +kernel
theorem dX4_isSide_2 : decode cX4_isSide 2 = .ok (.if_icmp .lt 12, 3) := by decide +kernel
theorem dX4_isSide_5 : decode cX4_isSide 5 = .ok (.iload_n 0, 1) := by decide +kernel
theorem dX4_isSide_6 : decode cX4_isSide 6 = .ok (.iconst 4, 1) := by decide +kernel
theorem dX4_isSide_7 : decode cX4_isSide 7 = .ok (.if_icmp .gt 7, 3) := by decide +kernel
theorem dX4_isSide_10 : decode cX4_isSide 10 = .ok (.iconst 1, 1) := by decide +kernel
theorem dX4_isSide_11 : decode cX4_isSide 11 = .ok (.goto 4, 3) := by decide +kernel
theorem dX4_isSide_14 : decode cX4_isSide 14 = .ok (.iconst 0, 1) := by decide +kernel
theorem dX4_isSide_15 : decode cX4_isSide 15 = .ok (.ireturn, 1) := by decide +kernel
set_option maxRecDepth 20000 in
theorem ggX4_requireCell_X0_cellCount : GoodIn wsX4_requireCell wsX0_cellCount := goodIn_r _ [7, 8, 9, 10, 11, 12, 13, 14, 15, 22, 23, 24, 25, 26] (by decide +kernel) (by decide +kernel)
set_option maxRecDepth 20000 in
theorem gX4_requireCell_X0_cellCount_n60 : GoodIn wsX4_requireCell (wsX0_cellCount) := ggX4_requireCell_X0_cellCount
theorem dX4_requireCell_0 : decode cX4_requireCell 0 = .ok (.iload_n 1, 1) := by decide +kernel
theorem dX4_requireCell_1 : decode cX4_requireCell 1 = .ok (.ifCond .lt 14, 3) := by decide +kernel
theorem dX4_requireCell_4 : decode cX4_requireCell 4 = .ok (.iload_n 1, 1) := by decide +kernel
theorem dX4_requireCell_5 : decode cX4_requireCell 5 = .ok (.aload_n 0, 1) := by decide +kernel
theorem dX4_requireCell_6 : decode cX4_requireCell 6 = .ok (.getfield 18, 3) := by decide +kernel
theorem dX4_requireCell_9 : decode cX4_requireCell 9 = .ok (.invokevirtual 60, 3) := by decide +kernel
theorem dX4_requireCell_12 : decode cX4_requireCell 12 = .ok (.if_icmp .lt 13, 3) := by decide +kernel
theorem dX4_requireCell_15 : decode cX4_requireCell 15 = .ok (.new 164, 3) := by decide +kernel
theorem dX4_requireCell_18 : decode cX4_requireCell 18 = .ok (.dup, 1) := by decide +kernel
theorem dX4_requireCell_19 : decode cX4_requireCell 19 = .ok (.ldc 166, 2) := by decide +kernel
theorem dX4_requireCell_21 : decode cX4_requireCell 21 = .ok (.invokespecial 168, 3) := by decide +kernel
theorem dX4_requireCell_24 : decode cX4_requireCell 24 = .ok (.athrow, 1) := by decide +kernel
theorem dX4_requireCell_25 : decode cX4_requireCell 25 = .ok (.return_, 1) := by decide +kernel
theorem dX4_requireNumber_0 : decode cX4_requireNumber 0 = .ok (.iload_n 0, 1) := by decide +kernel
theorem dX4_requireNumber_1 : decode cX4_requireNumber 1 = .ok (.iconst 1, 1) := by decide +kernel
theorem dX4_requireNumber_2 : decode cX4_requireNumber 2 = .ok (.if_icmp .lt 9, 3) := by decide +kernel
theorem dX4_requireNumber_5 : decode cX4_requireNumber 5 = .ok (.iload_n 0, 1) := by decide +kernel
theorem dX4_requireNumber_6 : decode cX4_requireNumber 6 = .ok (.bipush 9, 2) := by decide +kernel
theorem dX4_requireNumber_8 : decode cX4_requireNumber 8 = .ok (.if_icmp .le 13, 3) := by decide +kernel
theorem dX4_requireNumber_11 : decode cX4_requireNumber 11 = .ok (.new 47, 3) := by decide +kernel
theorem dX4_requireNumber_14 : decode cX4_requireNumber 14 = .ok (.dup, 1) := by decide +kernel
theorem dX4_requireNumber_15 : decode cX4_requireNumber 15 = .ok (.ldc 169, 2) := by decide +kernel
theorem dX4_requireNumber_17 : decode cX4_requireNumber 17 = .ok (.invokespecial 51, 3) := by decide +kernel
theorem dX4_requireNumber_20 : decode cX4_requireNumber 20 = .ok (.athrow, 1) := by decide +kernel
theorem dX4_requireNumber_21 : decode cX4_requireNumber 21 = .ok (.return_, 1) := by decide +kernel
set_option maxRecDepth 20000 in
theorem ggX4_showCluesAlone_X0_copyFrom : GoodIn wsX4_showCluesAlone wsX0_copyFrom := goodIn_r _ [7, 8, 9, 10, 11, 12, 19, 20, 21, 22, 23] (by decide +kernel) (by decide +kernel)
set_option maxRecDepth 20000 in
theorem gX4_showCluesAlone_X0_copyFrom_n171 : GoodIn wsX4_showCluesAlone (wsX0_copyFrom) := ggX4_showCluesAlone_X0_copyFrom
theorem dX4_showCluesAlone_0 : decode cX4_showCluesAlone 0 = .ok (.aload_n 0, 1) := by decide +kernel
theorem dX4_showCluesAlone_1 : decode cX4_showCluesAlone 1 = .ok (.getfield 18, 3) := by decide +kernel
theorem dX4_showCluesAlone_4 : decode cX4_showCluesAlone 4 = .ok (.aload_n 0, 1) := by decide +kernel
theorem dX4_showCluesAlone_5 : decode cX4_showCluesAlone 5 = .ok (.getfield 12, 3) := by decide +kernel
theorem dX4_showCluesAlone_8 : decode cX4_showCluesAlone 8 = .ok (.invokevirtual 171, 3) := by decide +kernel
theorem dX4_showCluesAlone_11 : decode cX4_showCluesAlone 11 = .ok (.aload_n 0, 1) := by decide +kernel
theorem dX4_showCluesAlone_12 : decode cX4_showCluesAlone 12 = .ok (.iconst 0, 1) := by decide +kernel
theorem dX4_showCluesAlone_13 : decode cX4_showCluesAlone 13 = .ok (.putfield 25, 3) := by decide +kernel
theorem dX4_showCluesAlone_16 : decode cX4_showCluesAlone 16 = .ok (.return_, 1) := by decide +kernel
set_option maxRecDepth 20000 in
theorem ggX4_putAndLog_X0_write : GoodIn wsX4_putAndLog wsX0_write := goodIn_r _ [7, 8, 9, 10, 5, 11, 18, 19, 20, 21, 22] (by decide +kernel) (by decide +kernel)
set_option maxRecDepth 20000 in
theorem gX4_putAndLog_X0_write_n75 : GoodIn wsX4_putAndLog (wsX0_write) := ggX4_putAndLog_X0_write
theorem dX4_putAndLog_0 : decode cX4_putAndLog 0 = .ok (.aload_n 0, 1) := by decide +kernel
theorem dX4_putAndLog_1 : decode cX4_putAndLog 1 = .ok (.getfield 25, 3) := by decide +kernel
theorem dX4_putAndLog_4 : decode cX4_putAndLog 4 = .ok (.ifCond .lt 44, 3) := by decide +kernel
theorem dX4_putAndLog_7 : decode cX4_putAndLog 7 = .ok (.aload_n 0, 1) := by decide +kernel
theorem dX4_putAndLog_8 : decode cX4_putAndLog 8 = .ok (.getfield 25, 3) := by decide +kernel
theorem dX4_putAndLog_11 : decode cX4_putAndLog 11 = .ok (.aload_n 0, 1) := by decide +kernel
theorem dX4_putAndLog_12 : decode cX4_putAndLog 12 = .ok (.getfield 21, 3) := by decide +kernel
theorem dX4_putAndLog_15 : decode cX4_putAndLog 15 = .ok (.arraylength, 1) := by decide +kernel
theorem dX4_putAndLog_16 : decode cX4_putAndLog 16 = .ok (.if_icmp .ge 32, 3) := by decide +kernel
theorem dX4_putAndLog_19 : decode cX4_putAndLog 19 = .ok (.aload_n 0, 1) := by decide +kernel
theorem dX4_putAndLog_20 : decode cX4_putAndLog 20 = .ok (.getfield 18, 3) := by decide +kernel
theorem dX4_putAndLog_23 : decode cX4_putAndLog 23 = .ok (.iload_n 1, 1) := by decide +kernel
theorem dX4_putAndLog_24 : decode cX4_putAndLog 24 = .ok (.iload_n 2, 1) := by decide +kernel
theorem dX4_putAndLog_25 : decode cX4_putAndLog 25 = .ok (.invokevirtual 75, 3) := by decide +kernel
theorem dX4_putAndLog_28 : decode cX4_putAndLog 28 = .ok (.aload_n 0, 1) := by decide +kernel
theorem dX4_putAndLog_29 : decode cX4_putAndLog 29 = .ok (.getfield 21, 3) := by decide +kernel
theorem dX4_putAndLog_32 : decode cX4_putAndLog 32 = .ok (.aload_n 0, 1) := by decide +kernel
theorem dX4_putAndLog_33 : decode cX4_putAndLog 33 = .ok (.getfield 25, 3) := by decide +kernel
theorem dX4_putAndLog_36 : decode cX4_putAndLog 36 = .ok (.iload_n 1, 1) := by decide +kernel
theorem dX4_putAndLog_37 : decode cX4_putAndLog 37 = .ok (.iastore, 1) := by decide +kernel
theorem dX4_putAndLog_38 : decode cX4_putAndLog 38 = .ok (.aload_n 0, 1) := by decide +kernel
theorem dX4_putAndLog_39 : decode cX4_putAndLog 39 = .ok (.dup, 1) := by decide +kernel
theorem dX4_putAndLog_40 : decode cX4_putAndLog 40 = .ok (.getfield 25, 3) := by decide +kernel
theorem dX4_putAndLog_43 : decode cX4_putAndLog 43 = .ok (.iconst 1, 1) := by decide +kernel
theorem dX4_putAndLog_44 : decode cX4_putAndLog 44 = .ok (.iadd, 1) := by decide +kernel
theorem dX4_putAndLog_45 : decode cX4_putAndLog 45 = .ok (.putfield 25, 3) := by decide +kernel
theorem dX4_putAndLog_48 : decode cX4_putAndLog 48 = .ok (.return_, 1) := by decide +kernel
set_option maxRecDepth 20000 in
theorem ggX4_takeIfNotNeeded_X0_numberIn : GoodIn wsX4_takeIfNotNeeded wsX0_numberIn := goodIn_r _ [5, 6, 7, 8, 3, 9, 10, 11, 12, 79, 80, 81, 82, 83] (by decide +kernel) (by decide +kernel)
set_option maxRecDepth 20000 in
theorem gX4_takeIfNotNeeded_X0_numberIn_n71 : GoodIn wsX4_takeIfNotNeeded (wsX0_numberIn) := ggX4_takeIfNotNeeded_X0_numberIn
set_option maxRecDepth 20000 in
theorem ggX4_takeIfNotNeeded_X0_write : GoodIn wsX4_takeIfNotNeeded wsX0_write := goodIn_r _ [15, 6, 10, 11, 3, 12, 79, 80, 81, 82, 83] (by decide +kernel) (by decide +kernel)
set_option maxRecDepth 20000 in
theorem gX4_takeIfNotNeeded_X0_write_n75 : GoodIn wsX4_takeIfNotNeeded (wsX0_write) := ggX4_takeIfNotNeeded_X0_write
set_option maxRecDepth 20000 in
theorem ggX4_takeIfNotNeeded_X3_countSolutions : GoodIn wsX4_takeIfNotNeeded wsX3_countSolutions := goodIn_r _ [18, 19, 3, 20, 21, 22, 23, 24, 25, 26, 27, 28, 29, 2, 4, 5, 6, 7, 8, 9, 10, 11, 12, 30, 31, 32, 33, 34, 35, 36, 37, 38, 39, 40, 41, 42, 43, 44, 45, 46, 47, 48, 13, 14, 15, 49, 50, 51, 52, 53, 54, 55, 56, 57, 58, 59, 60, 61, 62, 63, 64, 65, 66, 67, 68, 69, 70, 71, 72, 16, 17, 79, 80, 81, 82, 83] (by decide +kernel) (by decide +kernel)
set_option maxRecDepth 20000 in
theorem gX4_takeIfNotNeeded_X3_countSolutions_n160 : GoodIn wsX4_takeIfNotNeeded (wsX3_countSolutions) := ggX4_takeIfNotNeeded_X3_countSolutions
theorem dX4_takeIfNotNeeded_0 : decode cX4_takeIfNotNeeded 0 = .ok (.aload_n 0, 1) := by decide +kernel
theorem dX4_takeIfNotNeeded_1 : decode cX4_takeIfNotNeeded 1 = .ok (.getfield 12, 3) := by decide +kernel
theorem dX4_takeIfNotNeeded_4 : decode cX4_takeIfNotNeeded 4 = .ok (.iload_n 1, 1) := by decide +kernel
theorem dX4_takeIfNotNeeded_5 : decode cX4_takeIfNotNeeded 5 = .ok (.invokevirtual 71, 3) := by decide +kernel
theorem dX4_takeIfNotNeeded_8 : decode cX4_takeIfNotNeeded 8 = .ok (.istore_n 2, 1) := by decide +kernel
theorem dX4_takeIfNotNeeded_9 : decode cX4_takeIfNotNeeded 9 = .ok (.iload_n 2, 1) := by decide +kernel
theorem dX4_takeIfNotNeeded_10 : decode cX4_takeIfNotNeeded 10 = .ok (.ifCond .ne 4, 3) := by decide +kernel
theorem dX4_takeIfNotNeeded_13 : decode cX4_takeIfNotNeeded 13 = .ok (.return_, 1) := by decide +kernel
theorem dX4_takeIfNotNeeded_14 : decode cX4_takeIfNotNeeded 14 = .ok (.aload_n 0, 1) := by decide +kernel
theorem dX4_takeIfNotNeeded_15 : decode cX4_takeIfNotNeeded 15 = .ok (.getfield 12, 3) := by decide +kernel
theorem dX4_takeIfNotNeeded_18 : decode cX4_takeIfNotNeeded 18 = .ok (.iload_n 1, 1) := by decide +kernel
theorem dX4_takeIfNotNeeded_19 : decode cX4_takeIfNotNeeded 19 = .ok (.iconst 0, 1) := by decide +kernel
theorem dX4_takeIfNotNeeded_20 : decode cX4_takeIfNotNeeded 20 = .ok (.invokevirtual 75, 3) := by decide +kernel
theorem dX4_takeIfNotNeeded_23 : decode cX4_takeIfNotNeeded 23 = .ok (.aload_n 0, 1) := by decide +kernel
theorem dX4_takeIfNotNeeded_24 : decode cX4_takeIfNotNeeded 24 = .ok (.getfield 12, 3) := by decide +kernel
theorem dX4_takeIfNotNeeded_27 : decode cX4_takeIfNotNeeded 27 = .ok (.iconst 0, 1) := by decide +kernel
theorem dX4_takeIfNotNeeded_28 : decode cX4_takeIfNotNeeded 28 = .ok (.iconst 2, 1) := by decide +kernel
theorem dX4_takeIfNotNeeded_29 : decode cX4_takeIfNotNeeded 29 = .ok (.invokestatic 160, 3) := by decide +kernel
theorem dX4_takeIfNotNeeded_32 : decode cX4_takeIfNotNeeded 32 = .ok (.iconst 1, 1) := by decide +kernel
theorem dX4_takeIfNotNeeded_33 : decode cX4_takeIfNotNeeded 33 = .ok (.if_icmp .eq 12, 3) := by decide +kernel
theorem dX4_takeIfNotNeeded_36 : decode cX4_takeIfNotNeeded 36 = .ok (.aload_n 0, 1) := by decide +kernel
theorem dX4_takeIfNotNeeded_37 : decode cX4_takeIfNotNeeded 37 = .ok (.getfield 12, 3) := by decide +kernel
theorem dX4_takeIfNotNeeded_40 : decode cX4_takeIfNotNeeded 40 = .ok (.iload_n 1, 1) := by decide +kernel
theorem dX4_takeIfNotNeeded_41 : decode cX4_takeIfNotNeeded 41 = .ok (.iload_n 2, 1) := by decide +kernel
theorem dX4_takeIfNotNeeded_42 : decode cX4_takeIfNotNeeded 42 = .ok (.invokevirtual 75, 3) := by decide +kernel
theorem dX4_takeIfNotNeeded_45 : decode cX4_takeIfNotNeeded 45 = .ok (.return_, 1) := by decide +kernel
set_option maxRecDepth 20000 in
theorem ggX4_findCellOfOneNumber_X0_cellCount : GoodIn wsX4_findCellOfOneNumber wsX0_cellCount := goodIn_r _ [5, 6, 7, 8, 9, 10, 11, 12, 13, 73, 74, 75, 76, 77] (by decide +kernel) (by decide +kernel)
set_option maxRecDepth 20000 in
theorem gX4_findCellOfOneNumber_X0_cellCount_n60 : GoodIn wsX4_findCellOfOneNumber (wsX0_cellCount) := ggX4_findCellOfOneNumber_X0_cellCount
set_option maxRecDepth 20000 in
theorem ggX4_findCellOfOneNumber_X4_onlyNumberFor : GoodIn wsX4_findCellOfOneNumber wsX4_onlyNumberFor := goodIn_r _ [18, 1, 19, 3, 20, 21, 22, 23, 24, 25, 26, 27, 28, 29, 30, 31, 32, 33, 34, 35, 36, 37, 38, 39, 40, 41, 42, 43, 44, 45, 46, 47, 48, 49, 50, 51, 52, 53, 54, 55, 56, 57, 58, 59, 6, 7, 8, 9, 10, 11, 12, 13, 60, 61, 62, 63, 64, 65, 66, 67, 68, 69, 70, 71, 72, 73, 74, 75, 76, 77] (by decide +kernel) (by decide +kernel)
set_option maxRecDepth 20000 in
theorem gX4_findCellOfOneNumber_X4_onlyNumberFor : GoodIn wsX4_findCellOfOneNumber (wsV RX4 175 RX4 yX4_onlyNumberFor wsX4_onlyNumberFor) := goodIn_app (goodIn_of _ (by decide +kernel)) ggX4_findCellOfOneNumber_X4_onlyNumberFor
theorem dX4_findCellOfOneNumber_0 : decode cX4_findCellOfOneNumber 0 = .ok (.iconst 0, 1) := by decide +kernel
theorem dX4_findCellOfOneNumber_1 : decode cX4_findCellOfOneNumber 1 = .ok (.istore_n 1, 1) := by decide +kernel
theorem dX4_findCellOfOneNumber_2 : decode cX4_findCellOfOneNumber 2 = .ok (.iload_n 1, 1) := by decide +kernel
theorem dX4_findCellOfOneNumber_3 : decode cX4_findCellOfOneNumber 3 = .ok (.aload_n 0, 1) := by decide +kernel
theorem dX4_findCellOfOneNumber_4 : decode cX4_findCellOfOneNumber 4 = .ok (.getfield 18, 3) := by decide +kernel
theorem dX4_findCellOfOneNumber_7 : decode cX4_findCellOfOneNumber 7 = .ok (.invokevirtual 60, 3) := by decide +kernel
theorem dX4_findCellOfOneNumber_10 : decode cX4_findCellOfOneNumber 10 = .ok (.if_icmp .ge 26, 3) := by decide +kernel
theorem dX4_findCellOfOneNumber_13 : decode cX4_findCellOfOneNumber 13 = .ok (.aload_n 0, 1) := by decide +kernel
theorem dX4_findCellOfOneNumber_14 : decode cX4_findCellOfOneNumber 14 = .ok (.iload_n 1, 1) := by decide +kernel
theorem dX4_findCellOfOneNumber_15 : decode cX4_findCellOfOneNumber 15 = .ok (.invokevirtual 175, 3) := by decide +kernel
theorem dX4_findCellOfOneNumber_18 : decode cX4_findCellOfOneNumber 18 = .ok (.istore_n 2, 1) := by decide +kernel
theorem dX4_findCellOfOneNumber_19 : decode cX4_findCellOfOneNumber 19 = .ok (.iload_n 2, 1) := by decide +kernel
theorem dX4_findCellOfOneNumber_20 : decode cX4_findCellOfOneNumber 20 = .ok (.ifCond .eq 10, 3) := by decide +kernel
theorem dX4_findCellOfOneNumber_23 : decode cX4_findCellOfOneNumber 23 = .ok (.bipush 10, 2) := by decide +kernel
theorem dX4_findCellOfOneNumber_25 : decode cX4_findCellOfOneNumber 25 = .ok (.iload_n 1, 1) := by decide +kernel
theorem dX4_findCellOfOneNumber_26 : decode cX4_findCellOfOneNumber 26 = .ok (.imul, 1) := by decide +kernel
theorem dX4_findCellOfOneNumber_27 : decode cX4_findCellOfOneNumber 27 = .ok (.iload_n 2, 1) := by decide +kernel
theorem dX4_findCellOfOneNumber_28 : decode cX4_findCellOfOneNumber 28 = .ok (.iadd, 1) := by decide +kernel
theorem dX4_findCellOfOneNumber_29 : decode cX4_findCellOfOneNumber 29 = .ok (.ireturn, 1) := by decide +kernel
theorem dX4_findCellOfOneNumber_30 : decode cX4_findCellOfOneNumber 30 = .ok (.iinc 1 1, 3) := by decide +kernel
theorem dX4_findCellOfOneNumber_33 : decode cX4_findCellOfOneNumber 33 = .ok (.goto (-31), 3) := by decide +kernel
theorem dX4_findCellOfOneNumber_36 : decode cX4_findCellOfOneNumber 36 = .ok (.iconst (-1), 1) := by decide +kernel
theorem dX4_findCellOfOneNumber_37 : decode cX4_findCellOfOneNumber 37 = .ok (.ireturn, 1) := by decide +kernel
set_option maxRecDepth 20000 in
theorem ggX4_onlyNumberFor_X0_canTake : GoodIn wsX4_onlyNumberFor wsX0_canTake := goodIn_r _ [5, 6, 7, 8, 3, 9, 10, 11, 12, 13, 14, 15, 16, 17, 18, 19, 20, 21, 22, 23, 24, 25, 26, 27, 28, 29, 30, 31, 32, 33, 34, 35, 36, 37, 38, 39, 40, 41, 42, 43, 44, 45, 46, 47, 48, 49, 50, 51, 52, 53, 54, 55, 56, 57, 58, 65, 66, 67, 68, 69] (by decide +kernel) (by decide +kernel)
set_option maxRecDepth 20000 in
theorem gX4_onlyNumberFor_X0_canTake_n114 : GoodIn wsX4_onlyNumberFor (wsX0_canTake) := ggX4_onlyNumberFor_X0_canTake
theorem dX4_onlyNumberFor_0 : decode cX4_onlyNumberFor 0 = .ok (.iconst 0, 1) := by decide +kernel
theorem dX4_onlyNumberFor_1 : decode cX4_onlyNumberFor 1 = .ok (.istore_n 2, 1) := by decide +kernel
theorem dX4_onlyNumberFor_2 : decode cX4_onlyNumberFor 2 = .ok (.iconst 1, 1) := by decide +kernel
theorem dX4_onlyNumberFor_3 : decode cX4_onlyNumberFor 3 = .ok (.istore_n 3, 1) := by decide +kernel
theorem dX4_onlyNumberFor_4 : decode cX4_onlyNumberFor 4 = .ok (.iload_n 3, 1) := by decide +kernel
theorem dX4_onlyNumberFor_5 : decode cX4_onlyNumberFor 5 = .ok (.bipush 9, 2) := by decide +kernel
theorem dX4_onlyNumberFor_7 : decode cX4_onlyNumberFor 7 = .ok (.if_icmp .gt 29, 3) := by decide +kernel
theorem dX4_onlyNumberFor_10 : decode cX4_onlyNumberFor 10 = .ok (.aload_n 0, 1) := by decide +kernel
theorem dX4_onlyNumberFor_11 : decode cX4_onlyNumberFor 11 = .ok (.getfield 18, 3) := by decide +kernel
theorem dX4_onlyNumberFor_14 : decode cX4_onlyNumberFor 14 = .ok (.iload_n 1, 1) := by decide +kernel
theorem dX4_onlyNumberFor_15 : decode cX4_onlyNumberFor 15 = .ok (.iload_n 3, 1) := by decide +kernel
theorem dX4_onlyNumberFor_16 : decode cX4_onlyNumberFor 16 = .ok (.invokevirtual 114, 3) := by decide +kernel
theorem dX4_onlyNumberFor_19 : decode cX4_onlyNumberFor 19 = .ok (.ifCond .eq 11, 3) := by decide +kernel
theorem dX4_onlyNumberFor_22 : decode cX4_onlyNumberFor 22 = .ok (.iload_n 2, 1) := by decide +kernel
theorem dX4_onlyNumberFor_23 : decode cX4_onlyNumberFor 23 = .ok (.ifCond .eq 5, 3) := by decide +kernel
theorem dX4_onlyNumberFor_26 : decode cX4_onlyNumberFor 26 = .ok (.iconst 0, 1) := by decide +kernel
theorem dX4_onlyNumberFor_27 : decode cX4_onlyNumberFor 27 = .ok (.ireturn, 1) := by decide +kernel
theorem dX4_onlyNumberFor_28 : decode cX4_onlyNumberFor 28 = .ok (.iload_n 3, 1) := by decide +kernel
theorem dX4_onlyNumberFor_29 : decode cX4_onlyNumberFor 29 = .ok (.istore_n 2, 1) := by decide +kernel
theorem dX4_onlyNumberFor_30 : decode cX4_onlyNumberFor 30 = .ok (.iinc 3 1, 3) := by decide +kernel
theorem dX4_onlyNumberFor_33 : decode cX4_onlyNumberFor 33 = .ok (.goto (-29), 3) := by decide +kernel
theorem dX4_onlyNumberFor_36 : decode cX4_onlyNumberFor 36 = .ok (.iload_n 2, 1) := by decide +kernel
theorem dX4_onlyNumberFor_37 : decode cX4_onlyNumberFor 37 = .ok (.ireturn, 1) := by decide +kernel
set_option maxRecDepth 20000 in
theorem ggX4_findCellOfAllShapes_X0_cellCount : GoodIn wsX4_findCellOfAllShapes wsX0_cellCount := goodIn_r _ [5, 6, 7, 8, 9, 10, 11, 12, 13, 95, 96, 97, 98, 99] (by decide +kernel) (by decide +kernel)
set_option maxRecDepth 20000 in
theorem gX4_findCellOfAllShapes_X0_cellCount_n60 : GoodIn wsX4_findCellOfAllShapes (wsX0_cellCount) := ggX4_findCellOfAllShapes_X0_cellCount
set_option maxRecDepth 20000 in
theorem ggX4_findCellOfAllShapes_X0_emptyCells : GoodIn wsX4_findCellOfAllShapes wsX0_emptyCells := goodIn_r _ [16, 17, 18, 19, 3, 20, 21, 95, 96, 97, 98, 99] (by decide +kernel) (by decide +kernel)
set_option maxRecDepth 20000 in
theorem gX4_findCellOfAllShapes_X0_emptyCells_n106 : GoodIn wsX4_findCellOfAllShapes (wsX0_emptyCells) := ggX4_findCellOfAllShapes_X0_emptyCells
set_option maxRecDepth 20000 in
theorem ggX4_findCellOfAllShapes_X0_has : GoodIn wsX4_findCellOfAllShapes wsX0_has := goodIn_r _ [23, 24, 25, 3, 26] (by decide +kernel) (by decide +kernel)
set_option maxRecDepth 20000 in
theorem gX4_findCellOfAllShapes_X0_has_n145 : GoodIn wsX4_findCellOfAllShapes (wsX0_has) := ggX4_findCellOfAllShapes_X0_has
set_option maxRecDepth 20000 in
theorem ggX4_findCellOfAllShapes_X0_fieldOf : GoodIn wsX4_findCellOfAllShapes wsX0_fieldOf := goodIn_r _ [29, 30, 31, 32, 3, 33, 21, 34, 22, 23, 24, 25, 26, 17, 18, 19, 20, 35, 36, 37, 38, 39, 40, 41, 42, 43, 44, 45, 6, 95, 96, 97, 98, 99] (by decide +kernel) (by decide +kernel)
set_option maxRecDepth 20000 in
theorem gX4_findCellOfAllShapes_X0_fieldOf_n123 : GoodIn wsX4_findCellOfAllShapes (wsX0_fieldOf) := ggX4_findCellOfAllShapes_X0_fieldOf
set_option maxRecDepth 20000 in
theorem ggX4_findCellOfAllShapes_X4_lowestCellOfAllShapes : GoodIn wsX4_findCellOfAllShapes wsX4_lowestCellOfAllShapes := goodIn_r _ [50, 1, 51, 31, 3, 32, 33, 21, 34, 22, 23, 24, 25, 26, 52, 53, 54, 55, 56, 57, 58, 59, 60, 61, 62, 27, 28, 29, 30, 17, 18, 19, 20, 35, 36, 37, 38, 39, 40, 41, 42, 43, 44, 45, 6, 63, 64, 65, 66, 14, 15, 16, 67, 68, 69, 7, 8, 9, 10, 11, 12, 13, 70, 71, 72, 73, 74, 75, 76, 77, 78, 79, 80, 81, 82, 83, 84, 85, 86, 87, 88, 89, 90, 91, 92, 93, 94, 100, 101, 102, 95, 96, 97, 98, 99] (by decide +kernel) (by decide +kernel)
set_option maxRecDepth 20000 in
theorem gX4_findCellOfAllShapes_X4_lowestCellOfAllShapes : GoodIn wsX4_findCellOfAllShapes (wsV RX4 178 RX4 yX4_lowestCellOfAllShapes wsX4_lowestCellOfAllShapes) := goodIn_app (goodIn_of _ (by decide +kernel)) ggX4_findCellOfAllShapes_X4_lowestCellOfAllShapes
set_option maxRecDepth 20000 in
theorem ggX4_findCellOfAllShapes_X0_numberIn : GoodIn wsX4_findCellOfAllShapes wsX0_numberIn := goodIn_r _ [33, 21, 34, 22, 3, 23, 24, 25, 26, 95, 96, 97, 98, 99] (by decide +kernel) (by decide +kernel)
set_option maxRecDepth 20000 in
theorem gX4_findCellOfAllShapes_X0_numberIn_n71 : GoodIn wsX4_findCellOfAllShapes (wsX0_numberIn) := ggX4_findCellOfAllShapes_X0_numberIn
theorem dX4_findCellOfAllShapes_0 : decode cX4_findCellOfAllShapes 0 = .ok (.aload_n 0, 1) := by decide +kernel
theorem dX4_findCellOfAllShapes_1 : decode cX4_findCellOfAllShapes 1 = .ok (.getfield 18, 3) := by decide +kernel
theorem dX4_findCellOfAllShapes_4 : decode cX4_findCellOfAllShapes 4 = .ok (.invokevirtual 60, 3) := by decide +kernel
theorem dX4_findCellOfAllShapes_7 : decode cX4_findCellOfAllShapes 7 = .ok (.istore_n 1, 1) := by decide +kernel
theorem dX4_findCellOfAllShapes_8 : decode cX4_findCellOfAllShapes 8 = .ok (.iconst 0, 1) := by decide +kernel
theorem dX4_findCellOfAllShapes_9 : decode cX4_findCellOfAllShapes 9 = .ok (.istore_n 2, 1) := by decide +kernel
theorem dX4_findCellOfAllShapes_10 : decode cX4_findCellOfAllShapes 10 = .ok (.aload_n 0, 1) := by decide +kernel
theorem dX4_findCellOfAllShapes_11 : decode cX4_findCellOfAllShapes 11 = .ok (.getfield 18, 3) := by decide +kernel
theorem dX4_findCellOfAllShapes_14 : decode cX4_findCellOfAllShapes 14 = .ok (.invokevirtual 106, 3) := by decide +kernel
theorem dX4_findCellOfAllShapes_17 : decode cX4_findCellOfAllShapes 17 = .ok (.istore_n 3, 1) := by decide +kernel
theorem dX4_findCellOfAllShapes_18 : decode cX4_findCellOfAllShapes 18 = .ok (.iconst 0, 1) := by decide +kernel
theorem dX4_findCellOfAllShapes_19 : decode cX4_findCellOfAllShapes 19 = .ok (.istore 4, 2) := by decide +kernel
theorem dX4_findCellOfAllShapes_21 : decode cX4_findCellOfAllShapes 21 = .ok (.iload 4, 2) := by decide +kernel
theorem dX4_findCellOfAllShapes_23 : decode cX4_findCellOfAllShapes 23 = .ok (.aload_n 0, 1) := by decide +kernel
theorem dX4_findCellOfAllShapes_24 : decode cX4_findCellOfAllShapes 24 = .ok (.getfield 18, 3) := by decide +kernel
theorem dX4_findCellOfAllShapes_27 : decode cX4_findCellOfAllShapes 27 = .ok (.invokevirtual 60, 3) := by decide +kernel
theorem dX4_findCellOfAllShapes_30 : decode cX4_findCellOfAllShapes 30 = .ok (.if_icmp .ge 58, 3) := by decide +kernel
theorem dX4_findCellOfAllShapes_33 : decode cX4_findCellOfAllShapes 33 = .ok (.iload_n 3, 1) := by decide +kernel
theorem dX4_findCellOfAllShapes_34 : decode cX4_findCellOfAllShapes 34 = .ok (.iload 4, 2) := by decide +kernel
theorem dX4_findCellOfAllShapes_36 : decode cX4_findCellOfAllShapes 36 = .ok (.invokestatic 145, 3) := by decide +kernel
theorem dX4_findCellOfAllShapes_39 : decode cX4_findCellOfAllShapes 39 = .ok (.ifCond .ne 43, 3) := by decide +kernel
theorem dX4_findCellOfAllShapes_42 : decode cX4_findCellOfAllShapes 42 = .ok (.iload_n 3, 1) := by decide +kernel
theorem dX4_findCellOfAllShapes_43 : decode cX4_findCellOfAllShapes 43 = .ok (.aload_n 0, 1) := by decide +kernel
theorem dX4_findCellOfAllShapes_44 : decode cX4_findCellOfAllShapes 44 = .ok (.getfield 18, 3) := by decide +kernel
theorem dX4_findCellOfAllShapes_47 : decode cX4_findCellOfAllShapes 47 = .ok (.iload 4, 2) := by decide +kernel
theorem dX4_findCellOfAllShapes_49 : decode cX4_findCellOfAllShapes 49 = .ok (.invokevirtual 123, 3) := by decide +kernel
theorem dX4_findCellOfAllShapes_52 : decode cX4_findCellOfAllShapes 52 = .ok (.ior, 1) := by decide +kernel
theorem dX4_findCellOfAllShapes_53 : decode cX4_findCellOfAllShapes 53 = .ok (.istore_n 3, 1) := by decide +kernel
theorem dX4_findCellOfAllShapes_54 : decode cX4_findCellOfAllShapes 54 = .ok (.aload_n 0, 1) := by decide +kernel
theorem dX4_findCellOfAllShapes_55 : decode cX4_findCellOfAllShapes 55 = .ok (.iload 4, 2) := by decide +kernel
theorem dX4_findCellOfAllShapes_57 : decode cX4_findCellOfAllShapes 57 = .ok (.iload_n 1, 1) := by decide +kernel
theorem dX4_findCellOfAllShapes_58 : decode cX4_findCellOfAllShapes 58 = .ok (.invokevirtual 178, 3) := by decide +kernel
theorem dX4_findCellOfAllShapes_61 : decode cX4_findCellOfAllShapes 61 = .ok (.istore 5, 2) := by decide +kernel
theorem dX4_findCellOfAllShapes_63 : decode cX4_findCellOfAllShapes 63 = .ok (.iload 5, 2) := by decide +kernel
theorem dX4_findCellOfAllShapes_65 : decode cX4_findCellOfAllShapes 65 = .ok (.iload_n 1, 1) := by decide +kernel
theorem dX4_findCellOfAllShapes_66 : decode cX4_findCellOfAllShapes 66 = .ok (.if_icmp .ge 16, 3) := by decide +kernel
theorem dX4_findCellOfAllShapes_69 : decode cX4_findCellOfAllShapes 69 = .ok (.iload 5, 2) := by decide +kernel
theorem dX4_findCellOfAllShapes_71 : decode cX4_findCellOfAllShapes 71 = .ok (.istore_n 1, 1) := by decide +kernel
theorem dX4_findCellOfAllShapes_72 : decode cX4_findCellOfAllShapes 72 = .ok (.aload_n 0, 1) := by decide +kernel
theorem dX4_findCellOfAllShapes_73 : decode cX4_findCellOfAllShapes 73 = .ok (.getfield 18, 3) := by decide +kernel
theorem dX4_findCellOfAllShapes_76 : decode cX4_findCellOfAllShapes 76 = .ok (.iload 4, 2) := by decide +kernel
theorem dX4_findCellOfAllShapes_78 : decode cX4_findCellOfAllShapes 78 = .ok (.invokevirtual 71, 3) := by decide +kernel
theorem dX4_findCellOfAllShapes_81 : decode cX4_findCellOfAllShapes 81 = .ok (.istore_n 2, 1) := by decide +kernel
theorem dX4_findCellOfAllShapes_82 : decode cX4_findCellOfAllShapes 82 = .ok (.iinc 4 1, 3) := by decide +kernel
theorem dX4_findCellOfAllShapes_85 : decode cX4_findCellOfAllShapes 85 = .ok (.goto (-64), 3) := by decide +kernel
theorem dX4_findCellOfAllShapes_88 : decode cX4_findCellOfAllShapes 88 = .ok (.iload_n 2, 1) := by decide +kernel
theorem dX4_findCellOfAllShapes_89 : decode cX4_findCellOfAllShapes 89 = .ok (.ifCond .ne 7, 3) := by decide +kernel
theorem dX4_findCellOfAllShapes_92 : decode cX4_findCellOfAllShapes 92 = .ok (.iconst (-1), 1) := by decide +kernel
theorem dX4_findCellOfAllShapes_93 : decode cX4_findCellOfAllShapes 93 = .ok (.goto 9, 3) := by decide +kernel
theorem dX4_findCellOfAllShapes_96 : decode cX4_findCellOfAllShapes 96 = .ok (.bipush 10, 2) := by decide +kernel
theorem dX4_findCellOfAllShapes_98 : decode cX4_findCellOfAllShapes 98 = .ok (.iload_n 1, 1) := by decide +kernel
theorem dX4_findCellOfAllShapes_99 : decode cX4_findCellOfAllShapes 99 = .ok (.imul, 1) := by decide +kernel
theorem dX4_findCellOfAllShapes_100 : decode cX4_findCellOfAllShapes 100 = .ok (.iload_n 2, 1) := by decide +kernel
theorem dX4_findCellOfAllShapes_101 : decode cX4_findCellOfAllShapes 101 = .ok (.iadd, 1) := by decide +kernel
theorem dX4_findCellOfAllShapes_102 : decode cX4_findCellOfAllShapes 102 = .ok (.ireturn, 1) := by decide +kernel
set_option maxRecDepth 20000 in
theorem ggX4_lowestCellOfAllShapes_X0_numberIn : GoodIn wsX4_lowestCellOfAllShapes wsX0_numberIn := goodIn_r _ [6, 7, 8, 9, 4, 10, 11, 12, 13, 90, 91, 92, 93, 94] (by decide +kernel) (by decide +kernel)
set_option maxRecDepth 20000 in
theorem gX4_lowestCellOfAllShapes_X0_numberIn_n71 : GoodIn wsX4_lowestCellOfAllShapes (wsX0_numberIn) := ggX4_lowestCellOfAllShapes_X0_numberIn
set_option maxRecDepth 20000 in
theorem ggX4_lowestCellOfAllShapes_X2_list : GoodIn wsX4_lowestCellOfAllShapes wsX2_list := goodIn_r _ [17, 18, 19, 20, 15, 21, 22, 23, 24, 3, 4, 5, 6, 7, 8, 9, 10, 11, 12, 13, 25, 26, 27, 28, 29, 30, 31, 32, 33, 34, 35, 36, 37, 38, 39, 40, 41, 42, 43, 44, 45, 46, 47, 48, 49, 50, 51, 52, 53, 54, 55, 56, 57, 58, 59, 60, 61, 62, 63, 64, 65, 66, 67, 68, 87, 88, 89, 90, 91, 92, 93, 94] (by decide +kernel) (by decide +kernel)
set_option maxRecDepth 20000 in
theorem gX4_lowestCellOfAllShapes_X2_list_n148 : GoodIn wsX4_lowestCellOfAllShapes (wsX2_list) := ggX4_lowestCellOfAllShapes_X2_list
set_option maxRecDepth 20000 in
theorem ggX4_lowestCellOfAllShapes_X0_has : GoodIn wsX4_lowestCellOfAllShapes wsX0_has := goodIn_r _ [10, 11, 12, 4, 13] (by decide +kernel) (by decide +kernel)
set_option maxRecDepth 20000 in
theorem gX4_lowestCellOfAllShapes_X0_has_n145 : GoodIn wsX4_lowestCellOfAllShapes (wsX0_has) := ggX4_lowestCellOfAllShapes_X0_has
set_option maxRecDepth 20000 in
theorem ggX4_lowestCellOfAllShapes_X0_canTake : GoodIn wsX4_lowestCellOfAllShapes wsX0_canTake := goodIn_r _ [71, 48, 49, 50, 4, 51, 29, 30, 31, 32, 7, 8, 9, 10, 11, 12, 13, 72, 73, 74, 75, 76, 25, 26, 27, 28, 3, 5, 6, 33, 34, 35, 36, 37, 38, 39, 40, 41, 42, 43, 44, 55, 56, 57, 58, 59, 60, 61, 77, 78, 79, 80, 62, 63, 64, 90, 91, 92, 93, 94] (by decide +kernel) (by decide +kernel)
set_option maxRecDepth 20000 in
theorem gX4_lowestCellOfAllShapes_X0_canTake_n114 : GoodIn wsX4_lowestCellOfAllShapes (wsX0_canTake) := ggX4_lowestCellOfAllShapes_X0_canTake
theorem dX4_lowestCellOfAllShapes_0 : decode cX4_lowestCellOfAllShapes 0 = .ok (.aload_n 0, 1) := by decide +kernel
theorem dX4_lowestCellOfAllShapes_1 : decode cX4_lowestCellOfAllShapes 1 = .ok (.getfield 18, 3) := by decide +kernel
theorem dX4_lowestCellOfAllShapes_4 : decode cX4_lowestCellOfAllShapes 4 = .ok (.iload_n 1, 1) := by decide +kernel
theorem dX4_lowestCellOfAllShapes_5 : decode cX4_lowestCellOfAllShapes 5 = .ok (.invokevirtual 71, 3) := by decide +kernel
theorem dX4_lowestCellOfAllShapes_8 : decode cX4_lowestCellOfAllShapes 8 = .ok (.istore_n 3, 1) := by decide +kernel
theorem dX4_lowestCellOfAllShapes_9 : decode cX4_lowestCellOfAllShapes 9 = .ok (.aload_n 0, 1) := by decide +kernel
theorem dX4_lowestCellOfAllShapes_10 : decode cX4_lowestCellOfAllShapes 10 = .ok (.getfield 32, 3) := by decide +kernel
theorem dX4_lowestCellOfAllShapes_13 : decode cX4_lowestCellOfAllShapes 13 = .ok (.aload_n 0, 1) := by decide +kernel
theorem dX4_lowestCellOfAllShapes_14 : decode cX4_lowestCellOfAllShapes 14 = .ok (.getfield 18, 3) := by decide +kernel
theorem dX4_lowestCellOfAllShapes_17 : decode cX4_lowestCellOfAllShapes 17 = .ok (.iload_n 1, 1) := by decide +kernel
theorem dX4_lowestCellOfAllShapes_18 : decode cX4_lowestCellOfAllShapes 18 = .ok (.invokevirtual 148, 3) := by decide +kernel
theorem dX4_lowestCellOfAllShapes_21 : decode cX4_lowestCellOfAllShapes 21 = .ok (.iconst 0, 1) := by decide +kernel
theorem dX4_lowestCellOfAllShapes_22 : decode cX4_lowestCellOfAllShapes 22 = .ok (.istore 4, 2) := by decide +kernel
theorem dX4_lowestCellOfAllShapes_24 : decode cX4_lowestCellOfAllShapes 24 = .ok (.iload 4, 2) := by decide +kernel
theorem dX4_lowestCellOfAllShapes_26 : decode cX4_lowestCellOfAllShapes 26 = .ok (.iload_n 2, 1) := by decide +kernel
theorem dX4_lowestCellOfAllShapes_27 : decode cX4_lowestCellOfAllShapes 27 = .ok (.if_icmp .ge 40, 3) := by decide +kernel
theorem dX4_lowestCellOfAllShapes_30 : decode cX4_lowestCellOfAllShapes 30 = .ok (.aload_n 0, 1) := by decide +kernel
theorem dX4_lowestCellOfAllShapes_31 : decode cX4_lowestCellOfAllShapes 31 = .ok (.getfield 32, 3) := by decide +kernel
theorem dX4_lowestCellOfAllShapes_34 : decode cX4_lowestCellOfAllShapes 34 = .ok (.getfield 182, 3) := by decide +kernel
theorem dX4_lowestCellOfAllShapes_37 : decode cX4_lowestCellOfAllShapes 37 = .ok (.iload 4, 2) := by decide +kernel
theorem dX4_lowestCellOfAllShapes_39 : decode cX4_lowestCellOfAllShapes 39 = .ok (.invokestatic 145, 3) := by decide +kernel
theorem dX4_lowestCellOfAllShapes_42 : decode cX4_lowestCellOfAllShapes 42 = .ok (.ifCond .eq 19, 3) := by decide +kernel
theorem dX4_lowestCellOfAllShapes_45 : decode cX4_lowestCellOfAllShapes 45 = .ok (.aload_n 0, 1) := by decide +kernel
theorem dX4_lowestCellOfAllShapes_46 : decode cX4_lowestCellOfAllShapes 46 = .ok (.getfield 18, 3) := by decide +kernel
theorem dX4_lowestCellOfAllShapes_49 : decode cX4_lowestCellOfAllShapes 49 = .ok (.iload 4, 2) := by decide +kernel
theorem dX4_lowestCellOfAllShapes_51 : decode cX4_lowestCellOfAllShapes 51 = .ok (.iload_n 3, 1) := by decide +kernel
theorem dX4_lowestCellOfAllShapes_52 : decode cX4_lowestCellOfAllShapes 52 = .ok (.invokevirtual 114, 3) := by decide +kernel
theorem dX4_lowestCellOfAllShapes_55 : decode cX4_lowestCellOfAllShapes 55 = .ok (.ifCond .eq 6, 3) := by decide +kernel
theorem dX4_lowestCellOfAllShapes_58 : decode cX4_lowestCellOfAllShapes 58 = .ok (.iload 4, 2) := by decide +kernel
theorem dX4_lowestCellOfAllShapes_60 : decode cX4_lowestCellOfAllShapes 60 = .ok (.ireturn, 1) := by decide +kernel
theorem dX4_lowestCellOfAllShapes_61 : decode cX4_lowestCellOfAllShapes 61 = .ok (.iinc 4 1, 3) := by decide +kernel
theorem dX4_lowestCellOfAllShapes_64 : decode cX4_lowestCellOfAllShapes 64 = .ok (.goto (-40), 3) := by decide +kernel
theorem dX4_lowestCellOfAllShapes_67 : decode cX4_lowestCellOfAllShapes 67 = .ok (.iload_n 2, 1) := by decide +kernel
theorem dX4_lowestCellOfAllShapes_68 : decode cX4_lowestCellOfAllShapes 68 = .ok (.ireturn, 1) := by decide +kernel
set_option maxRecDepth 20000 in
theorem ggX4_findHiddenOne_X0_hiddenCells : GoodIn wsX4_findHiddenOne wsX0_hiddenCells := goodIn_r _ [5, 6, 7, 8, 3, 9, 10, 11, 12, 13, 14, 15, 16, 17, 18, 19, 20, 21, 22, 23, 24, 25, 26, 27, 28, 29, 30, 31, 32, 33, 34, 35, 36, 74, 75, 76, 77, 78] (by decide +kernel) (by decide +kernel)
set_option maxRecDepth 20000 in
theorem gX4_findHiddenOne_X0_hiddenCells_n142 : GoodIn wsX4_findHiddenOne (wsX0_hiddenCells) := ggX4_findHiddenOne_X0_hiddenCells
set_option maxRecDepth 20000 in
theorem ggX4_findHiddenOne_X0_cellCount : GoodIn wsX4_findHiddenOne wsX0_cellCount := goodIn_r _ [39, 25, 30, 31, 32, 33, 34, 35, 36, 74, 75, 76, 77, 78] (by decide +kernel) (by decide +kernel)
set_option maxRecDepth 20000 in
theorem gX4_findHiddenOne_X0_cellCount_n60 : GoodIn wsX4_findHiddenOne (wsX0_cellCount) := ggX4_findHiddenOne_X0_cellCount
set_option maxRecDepth 20000 in
theorem ggX4_findHiddenOne_X0_has : GoodIn wsX4_findHiddenOne wsX0_has := goodIn_r _ [41, 42, 43, 3, 44] (by decide +kernel) (by decide +kernel)
set_option maxRecDepth 20000 in
theorem gX4_findHiddenOne_X0_has_n145 : GoodIn wsX4_findHiddenOne (wsX0_has) := ggX4_findHiddenOne_X0_has
set_option maxRecDepth 20000 in
theorem ggX4_findHiddenOne_X0_hasEmptyNeighbour : GoodIn wsX4_findHiddenOne wsX0_hasEmptyNeighbour := goodIn_r _ [47, 42, 43, 3, 44, 18, 19, 20, 21, 22, 23, 24, 25, 26, 27, 28, 29, 6, 7, 8, 9, 10, 74, 75, 76, 77, 78] (by decide +kernel) (by decide +kernel)
set_option maxRecDepth 20000 in
theorem gX4_findHiddenOne_X0_hasEmptyNeighbour_n185 : GoodIn wsX4_findHiddenOne (wsX0_hasEmptyNeighbour) := ggX4_findHiddenOne_X0_hasEmptyNeighbour
set_option maxRecDepth 20000 in
theorem ggX4_findHiddenOne_X0_canTake : GoodIn wsX4_findHiddenOne wsX0_canTake := goodIn_r _ [50, 26, 27, 28, 3, 29, 6, 7, 8, 9, 10, 51, 40, 41, 42, 43, 44, 52, 53, 54, 55, 56, 57, 58, 59, 60, 61, 62, 63, 14, 15, 16, 17, 18, 19, 20, 21, 22, 23, 24, 25, 30, 31, 32, 33, 34, 35, 36, 64, 65, 66, 67, 11, 12, 13, 74, 75, 76, 77, 78] (by decide +kernel) (by decide +kernel)
set_option maxRecDepth 20000 in
theorem gX4_findHiddenOne_X0_canTake_n114 : GoodIn wsX4_findHiddenOne (wsX0_canTake) := ggX4_findHiddenOne_X0_canTake
theorem dX4_findHiddenOne_0 : decode cX4_findHiddenOne 0 = .ok (.aload_n 0, 1) := by decide +kernel
theorem dX4_findHiddenOne_1 : decode cX4_findHiddenOne 1 = .ok (.getfield 18, 3) := by decide +kernel
theorem dX4_findHiddenOne_4 : decode cX4_findHiddenOne 4 = .ok (.invokevirtual 142, 3) := by decide +kernel
theorem dX4_findHiddenOne_7 : decode cX4_findHiddenOne 7 = .ok (.istore_n 1, 1) := by decide +kernel
theorem dX4_findHiddenOne_8 : decode cX4_findHiddenOne 8 = .ok (.iconst 0, 1) := by decide +kernel
theorem dX4_findHiddenOne_9 : decode cX4_findHiddenOne 9 = .ok (.istore_n 2, 1) := by decide +kernel
theorem dX4_findHiddenOne_10 : decode cX4_findHiddenOne 10 = .ok (.iload_n 2, 1) := by decide +kernel
theorem dX4_findHiddenOne_11 : decode cX4_findHiddenOne 11 = .ok (.aload_n 0, 1) := by decide +kernel
theorem dX4_findHiddenOne_12 : decode cX4_findHiddenOne 12 = .ok (.getfield 18, 3) := by decide +kernel
theorem dX4_findHiddenOne_15 : decode cX4_findHiddenOne 15 = .ok (.invokevirtual 60, 3) := by decide +kernel
theorem dX4_findHiddenOne_18 : decode cX4_findHiddenOne 18 = .ok (.if_icmp .ge 47, 3) := by decide +kernel
theorem dX4_findHiddenOne_21 : decode cX4_findHiddenOne 21 = .ok (.iload_n 1, 1) := by decide +kernel
theorem dX4_findHiddenOne_22 : decode cX4_findHiddenOne 22 = .ok (.iload_n 2, 1) := by decide +kernel
theorem dX4_findHiddenOne_23 : decode cX4_findHiddenOne 23 = .ok (.invokestatic 145, 3) := by decide +kernel
theorem dX4_findHiddenOne_26 : decode cX4_findHiddenOne 26 = .ok (.ifCond .eq 33, 3) := by decide +kernel
theorem dX4_findHiddenOne_29 : decode cX4_findHiddenOne 29 = .ok (.aload_n 0, 1) := by decide +kernel
theorem dX4_findHiddenOne_30 : decode cX4_findHiddenOne 30 = .ok (.getfield 18, 3) := by decide +kernel
theorem dX4_findHiddenOne_33 : decode cX4_findHiddenOne 33 = .ok (.iload_n 2, 1) := by decide +kernel
theorem dX4_findHiddenOne_34 : decode cX4_findHiddenOne 34 = .ok (.invokevirtual 185, 3) := by decide +kernel
theorem dX4_findHiddenOne_37 : decode cX4_findHiddenOne 37 = .ok (.ifCond .ne 22, 3) := by decide +kernel
theorem dX4_findHiddenOne_40 : decode cX4_findHiddenOne 40 = .ok (.aload_n 0, 1) := by decide +kernel
theorem dX4_findHiddenOne_41 : decode cX4_findHiddenOne 41 = .ok (.getfield 18, 3) := by decide +kernel
theorem dX4_findHiddenOne_44 : decode cX4_findHiddenOne 44 = .ok (.iload_n 2, 1) := by decide +kernel
theorem dX4_findHiddenOne_45 : decode cX4_findHiddenOne 45 = .ok (.iconst 1, 1) := by decide +kernel
theorem dX4_findHiddenOne_46 : decode cX4_findHiddenOne 46 = .ok (.invokevirtual 114, 3) := by decide +kernel
theorem dX4_findHiddenOne_49 : decode cX4_findHiddenOne 49 = .ok (.ifCond .eq 10, 3) := by decide +kernel
theorem dX4_findHiddenOne_52 : decode cX4_findHiddenOne 52 = .ok (.bipush 10, 2) := by decide +kernel
theorem dX4_findHiddenOne_54 : decode cX4_findHiddenOne 54 = .ok (.iload_n 2, 1) := by decide +kernel
theorem dX4_findHiddenOne_55 : decode cX4_findHiddenOne 55 = .ok (.imul, 1) := by decide +kernel
theorem dX4_findHiddenOne_56 : decode cX4_findHiddenOne 56 = .ok (.iconst 1, 1) := by decide +kernel
theorem dX4_findHiddenOne_57 : decode cX4_findHiddenOne 57 = .ok (.iadd, 1) := by decide +kernel
theorem dX4_findHiddenOne_58 : decode cX4_findHiddenOne 58 = .ok (.ireturn, 1) := by decide +kernel
theorem dX4_findHiddenOne_59 : decode cX4_findHiddenOne 59 = .ok (.iinc 2 1, 3) := by decide +kernel
theorem dX4_findHiddenOne_62 : decode cX4_findHiddenOne 62 = .ok (.goto (-52), 3) := by decide +kernel
theorem dX4_findHiddenOne_65 : decode cX4_findHiddenOne 65 = .ok (.iconst (-1), 1) := by decide +kernel
theorem dX4_findHiddenOne_66 : decode cX4_findHiddenOne 66 = .ok (.ireturn, 1) := by decide +kernel
theorem dJ6_bitCount_0f7a4_0 : decode cJ6_bitCount_0f7a4 0 = .ok (.iload_n 0, 1) := by decide +kernel
theorem dJ6_bitCount_0f7a4_1 : decode cJ6_bitCount_0f7a4 1 = .ok (.iload_n 0, 1) := by decide +kernel
theorem dJ6_bitCount_0f7a4_2 : decode cJ6_bitCount_0f7a4 2 = .ok (.iconst 1, 1) := by decide +kernel
theorem dJ6_bitCount_0f7a4_3 : decode cJ6_bitCount_0f7a4 3 = .ok (.iushr, 1) := by decide +kernel
theorem dJ6_bitCount_0f7a4_4 : decode cJ6_bitCount_0f7a4 4 = .ok (.ldc_w 265, 3) := by decide +kernel
theorem dJ6_bitCount_0f7a4_7 : decode cJ6_bitCount_0f7a4 7 = .ok (.iand, 1) := by decide +kernel
theorem dJ6_bitCount_0f7a4_8 : decode cJ6_bitCount_0f7a4 8 = .ok (.isub, 1) := by decide +kernel
theorem dJ6_bitCount_0f7a4_9 : decode cJ6_bitCount_0f7a4 9 = .ok (.istore_n 0, 1) := by decide +kernel
theorem dJ6_bitCount_0f7a4_10 : decode cJ6_bitCount_0f7a4 10 = .ok (.iload_n 0, 1) := by decide +kernel
theorem dJ6_bitCount_0f7a4_11 : decode cJ6_bitCount_0f7a4 11 = .ok (.ldc_w 266, 3) := by decide +kernel
theorem dJ6_bitCount_0f7a4_14 : decode cJ6_bitCount_0f7a4 14 = .ok (.iand, 1) := by decide +kernel
theorem dJ6_bitCount_0f7a4_15 : decode cJ6_bitCount_0f7a4 15 = .ok (.iload_n 0, 1) := by decide +kernel
theorem dJ6_bitCount_0f7a4_16 : decode cJ6_bitCount_0f7a4 16 = .ok (.iconst 2, 1) := by decide +kernel
theorem dJ6_bitCount_0f7a4_17 : decode cJ6_bitCount_0f7a4 17 = .ok (.iushr, 1) := by decide +kernel
theorem dJ6_bitCount_0f7a4_18 : decode cJ6_bitCount_0f7a4 18 = .ok (.ldc_w 266, 3) := by decide +kernel
theorem dJ6_bitCount_0f7a4_21 : decode cJ6_bitCount_0f7a4 21 = .ok (.iand, 1) := by decide +kernel
theorem dJ6_bitCount_0f7a4_22 : decode cJ6_bitCount_0f7a4 22 = .ok (.iadd, 1) := by decide +kernel
theorem dJ6_bitCount_0f7a4_23 : decode cJ6_bitCount_0f7a4 23 = .ok (.istore_n 0, 1) := by decide +kernel
theorem dJ6_bitCount_0f7a4_24 : decode cJ6_bitCount_0f7a4 24 = .ok (.iload_n 0, 1) := by decide +kernel
theorem dJ6_bitCount_0f7a4_25 : decode cJ6_bitCount_0f7a4 25 = .ok (.iload_n 0, 1) := by decide +kernel
theorem dJ6_bitCount_0f7a4_26 : decode cJ6_bitCount_0f7a4 26 = .ok (.iconst 4, 1) := by decide +kernel
theorem dJ6_bitCount_0f7a4_27 : decode cJ6_bitCount_0f7a4 27 = .ok (.iushr, 1) := by decide +kernel
theorem dJ6_bitCount_0f7a4_28 : decode cJ6_bitCount_0f7a4 28 = .ok (.iadd, 1) := by decide +kernel
theorem dJ6_bitCount_0f7a4_29 : decode cJ6_bitCount_0f7a4 29 = .ok (.ldc_w 267, 3) := by decide +kernel
theorem dJ6_bitCount_0f7a4_32 : decode cJ6_bitCount_0f7a4 32 = .ok (.iand, 1) := by decide +kernel
theorem dJ6_bitCount_0f7a4_33 : decode cJ6_bitCount_0f7a4 33 = .ok (.istore_n 0, 1) := by decide +kernel
theorem dJ6_bitCount_0f7a4_34 : decode cJ6_bitCount_0f7a4 34 = .ok (.iload_n 0, 1) := by decide +kernel
theorem dJ6_bitCount_0f7a4_35 : decode cJ6_bitCount_0f7a4 35 = .ok (.iload_n 0, 1) := by decide +kernel
theorem dJ6_bitCount_0f7a4_36 : decode cJ6_bitCount_0f7a4 36 = .ok (.bipush 8, 2) := by decide +kernel
theorem dJ6_bitCount_0f7a4_38 : decode cJ6_bitCount_0f7a4 38 = .ok (.iushr, 1) := by decide +kernel
theorem dJ6_bitCount_0f7a4_39 : decode cJ6_bitCount_0f7a4 39 = .ok (.iadd, 1) := by decide +kernel
theorem dJ6_bitCount_0f7a4_40 : decode cJ6_bitCount_0f7a4 40 = .ok (.istore_n 0, 1) := by decide +kernel
theorem dJ6_bitCount_0f7a4_41 : decode cJ6_bitCount_0f7a4 41 = .ok (.iload_n 0, 1) := by decide +kernel
theorem dJ6_bitCount_0f7a4_42 : decode cJ6_bitCount_0f7a4 42 = .ok (.iload_n 0, 1) := by decide +kernel
theorem dJ6_bitCount_0f7a4_43 : decode cJ6_bitCount_0f7a4 43 = .ok (.bipush 16, 2) := by decide +kernel
theorem dJ6_bitCount_0f7a4_45 : decode cJ6_bitCount_0f7a4 45 = .ok (.iushr, 1) := by decide +kernel
theorem dJ6_bitCount_0f7a4_46 : decode cJ6_bitCount_0f7a4 46 = .ok (.iadd, 1) := by decide +kernel
theorem dJ6_bitCount_0f7a4_47 : decode cJ6_bitCount_0f7a4 47 = .ok (.istore_n 0, 1) := by decide +kernel
theorem dJ6_bitCount_0f7a4_48 : decode cJ6_bitCount_0f7a4 48 = .ok (.iload_n 0, 1) := by decide +kernel
theorem dJ6_bitCount_0f7a4_49 : decode cJ6_bitCount_0f7a4 49 = .ok (.bipush 63, 2) := by decide +kernel
theorem dJ6_bitCount_0f7a4_51 : decode cJ6_bitCount_0f7a4 51 = .ok (.iand, 1) := by decide +kernel
theorem dJ6_bitCount_0f7a4_52 : decode cJ6_bitCount_0f7a4 52 = .ok (.ireturn, 1) := by decide +kernel
theorem dJ9_floorMod_7cf53_0 : decode cJ9_floorMod_7cf53 0 = .ok (.iload_n 0, 1) := by decide +kernel
theorem dJ9_floorMod_7cf53_1 : decode cJ9_floorMod_7cf53 1 = .ok (.iload_n 1, 1) := by decide +kernel
theorem dJ9_floorMod_7cf53_2 : decode cJ9_floorMod_7cf53 2 = .ok (.irem, 1) := by decide +kernel
theorem dJ9_floorMod_7cf53_3 : decode cJ9_floorMod_7cf53 3 = .ok (.istore_n 2, 1) := by decide +kernel
theorem dJ9_floorMod_7cf53_4 : decode cJ9_floorMod_7cf53 4 = .ok (.iload_n 0, 1) := by decide +kernel
theorem dJ9_floorMod_7cf53_5 : decode cJ9_floorMod_7cf53 5 = .ok (.iload_n 1, 1) := by decide +kernel
theorem dJ9_floorMod_7cf53_6 : decode cJ9_floorMod_7cf53 6 = .ok (.ixor, 1) := by decide +kernel
theorem dJ9_floorMod_7cf53_7 : decode cJ9_floorMod_7cf53 7 = .ok (.ifCond .ge 11, 3) := by decide +kernel
theorem dJ9_floorMod_7cf53_10 : decode cJ9_floorMod_7cf53 10 = .ok (.iload_n 2, 1) := by decide +kernel
theorem dJ9_floorMod_7cf53_11 : decode cJ9_floorMod_7cf53 11 = .ok (.ifCond .eq 7, 3) := by decide +kernel
theorem dJ9_floorMod_7cf53_14 : decode cJ9_floorMod_7cf53 14 = .ok (.iload_n 2, 1) := by decide +kernel
theorem dJ9_floorMod_7cf53_15 : decode cJ9_floorMod_7cf53 15 = .ok (.iload_n 1, 1) := by decide +kernel
theorem dJ9_floorMod_7cf53_16 : decode cJ9_floorMod_7cf53 16 = .ok (.iadd, 1) := by decide +kernel
theorem dJ9_floorMod_7cf53_17 : decode cJ9_floorMod_7cf53 17 = .ok (.ireturn, 1) := by decide +kernel
theorem dJ9_floorMod_7cf53_18 : decode cJ9_floorMod_7cf53 18 = .ok (.iload_n 2, 1) := by decide +kernel
theorem dJ9_floorMod_7cf53_19 : decode cJ9_floorMod_7cf53 19 = .ok (.ireturn, 1) := by decide +kernel
theorem dL_draw_0 : decode cL_draw 0 = .ok (.iload_n 1, 1) := by decide +kernel
theorem dL_draw_1 : decode cL_draw 1 = .ok (.aload_n 0, 1) := by decide +kernel
theorem dL_draw_2 : decode cL_draw 2 = .ok (.arraylength, 1) := by decide +kernel
theorem dL_draw_3 : decode cL_draw 3 = .ok (.if_icmp .ge 9, 3) := by decide +kernel
theorem dL_draw_6 : decode cL_draw 6 = .ok (.aload_n 0, 1) := by decide +kernel
theorem dL_draw_7 : decode cL_draw 7 = .ok (.iload_n 1, 1) := by decide +kernel
theorem dL_draw_8 : decode cL_draw 8 = .ok (.iaload, 1) := by decide +kernel
theorem dL_draw_9 : decode cL_draw 9 = .ok (.goto 14, 3) := by decide +kernel
theorem dL_draw_12 : decode cL_draw 12 = .ok (.ldc 7, 2) := by decide +kernel
theorem dL_draw_14 : decode cL_draw 14 = .ok (.iload_n 1, 1) := by decide +kernel
theorem dL_draw_15 : decode cL_draw 15 = .ok (.sipush 151, 3) := by decide +kernel
theorem dL_draw_18 : decode cL_draw 18 = .ok (.iadd, 1) := by decide +kernel
theorem dL_draw_19 : decode cL_draw 19 = .ok (.imul, 1) := by decide +kernel
theorem dL_draw_20 : decode cL_draw 20 = .ok (.ldc 8, 2) := by decide +kernel
theorem dL_draw_22 : decode cL_draw 22 = .ok (.iadd, 1) := by decide +kernel
theorem dL_draw_23 : decode cL_draw 23 = .ok (.istore_n 3, 1) := by decide +kernel
theorem dL_draw_24 : decode cL_draw 24 = .ok (.iload_n 3, 1) := by decide +kernel
theorem dL_draw_25 : decode cL_draw 25 = .ok (.ldc 9, 2) := by decide +kernel
theorem dL_draw_27 : decode cL_draw 27 = .ok (.iand, 1) := by decide +kernel
theorem dL_draw_28 : decode cL_draw 28 = .ok (.iload_n 2, 1) := by decide +kernel
theorem dL_draw_29 : decode cL_draw 29 = .ok (.irem, 1) := by decide +kernel
theorem dL_draw_30 : decode cL_draw 30 = .ok (.ireturn, 1) := by decide +kernel
theorem dL_areNext_0 : decode cL_areNext 0 = .ok (.iload_n 1, 1) := by decide +kernel
theorem dL_areNext_1 : decode cL_areNext 1 = .ok (.aload_n 0, 1) := by decide +kernel
theorem dL_areNext_2 : decode cL_areNext 2 = .ok (.iconst 1, 1) := by decide +kernel
theorem dL_areNext_3 : decode cL_areNext 3 = .ok (.iaload, 1) := by decide +kernel
theorem dL_areNext_4 : decode cL_areNext 4 = .ok (.idiv, 1) := by decide +kernel
theorem dL_areNext_5 : decode cL_areNext 5 = .ok (.iload_n 2, 1) := by decide +kernel
theorem dL_areNext_6 : decode cL_areNext 6 = .ok (.aload_n 0, 1) := by decide +kernel
theorem dL_areNext_7 : decode cL_areNext 7 = .ok (.iconst 1, 1) := by decide +kernel
theorem dL_areNext_8 : decode cL_areNext 8 = .ok (.iaload, 1) := by decide +kernel
theorem dL_areNext_9 : decode cL_areNext 9 = .ok (.idiv, 1) := by decide +kernel
theorem dL_areNext_10 : decode cL_areNext 10 = .ok (.isub, 1) := by decide +kernel
theorem dL_areNext_11 : decode cL_areNext 11 = .ok (.istore_n 3, 1) := by decide +kernel
theorem dL_areNext_12 : decode cL_areNext 12 = .ok (.iload_n 1, 1) := by decide +kernel
theorem dL_areNext_13 : decode cL_areNext 13 = .ok (.aload_n 0, 1) := by decide +kernel
theorem dL_areNext_14 : decode cL_areNext 14 = .ok (.iconst 1, 1) := by decide +kernel
theorem dL_areNext_15 : decode cL_areNext 15 = .ok (.iaload, 1) := by decide +kernel
theorem dL_areNext_16 : decode cL_areNext 16 = .ok (.irem, 1) := by decide +kernel
theorem dL_areNext_17 : decode cL_areNext 17 = .ok (.iload_n 2, 1) := by decide +kernel
theorem dL_areNext_18 : decode cL_areNext 18 = .ok (.aload_n 0, 1) := by decide +kernel
theorem dL_areNext_19 : decode cL_areNext 19 = .ok (.iconst 1, 1) := by decide +kernel
theorem dL_areNext_20 : decode cL_areNext 20 = .ok (.iaload, 1) := by decide +kernel
theorem dL_areNext_21 : decode cL_areNext 21 = .ok (.irem, 1) := by decide +kernel
theorem dL_areNext_22 : decode cL_areNext 22 = .ok (.isub, 1) := by decide +kernel
theorem dL_areNext_23 : decode cL_areNext 23 = .ok (.istore 4, 2) := by decide +kernel
theorem dL_areNext_25 : decode cL_areNext 25 = .ok (.iload_n 3, 1) := by decide +kernel
theorem dL_areNext_26 : decode cL_areNext 26 = .ok (.iload_n 3, 1) := by decide +kernel
theorem dL_areNext_27 : decode cL_areNext 27 = .ok (.imul, 1) := by decide +kernel
theorem dL_areNext_28 : decode cL_areNext 28 = .ok (.iload 4, 2) := by decide +kernel
theorem dL_areNext_30 : decode cL_areNext 30 = .ok (.iload 4, 2) := by decide +kernel
theorem dL_areNext_32 : decode cL_areNext 32 = .ok (.imul, 1) := by decide +kernel
theorem dL_areNext_33 : decode cL_areNext 33 = .ok (.iadd, 1) := by decide +kernel
theorem dL_areNext_34 : decode cL_areNext 34 = .ok (.iconst 1, 1) := by decide +kernel
theorem dL_areNext_35 : decode cL_areNext 35 = .ok (.if_icmp .ne 7, 3) := by decide +kernel
theorem dL_areNext_38 : decode cL_areNext 38 = .ok (.iconst 1, 1) := by decide +kernel
theorem dL_areNext_39 : decode cL_areNext 39 = .ok (.goto 4, 3) := by decide +kernel
theorem dL_areNext_42 : decode cL_areNext 42 = .ok (.iconst 0, 1) := by decide +kernel
theorem dL_areNext_43 : decode cL_areNext 43 = .ok (.ireturn, 1) := by decide +kernel
theorem dL_many_0 : decode cL_many 0 = .ok (.iconst 0, 1) := by decide +kernel
theorem dL_many_1 : decode cL_many 1 = .ok (.istore_n 1, 1) := by decide +kernel
theorem dL_many_2 : decode cL_many 2 = .ok (.iload_n 0, 1) := by decide +kernel
theorem dL_many_3 : decode cL_many 3 = .ok (.istore_n 2, 1) := by decide +kernel
theorem dL_many_4 : decode cL_many 4 = .ok (.iload_n 2, 1) := by decide +kernel
theorem dL_many_5 : decode cL_many 5 = .ok (.ifCond .eq 15, 3) := by decide +kernel
theorem dL_many_8 : decode cL_many 8 = .ok (.iinc 1 1, 3) := by decide +kernel
theorem dL_many_11 : decode cL_many 11 = .ok (.iload_n 2, 1) := by decide +kernel
theorem dL_many_12 : decode cL_many 12 = .ok (.iload_n 2, 1) := by decide +kernel
theorem dL_many_13 : decode cL_many 13 = .ok (.iconst 1, 1) := by decide +kernel
theorem dL_many_14 : decode cL_many 14 = .ok (.isub, 1) := by decide +kernel
theorem dL_many_15 : decode cL_many 15 = .ok (.iand, 1) := by decide +kernel
theorem dL_many_16 : decode cL_many 16 = .ok (.istore_n 2, 1) := by decide +kernel
theorem dL_many_17 : decode cL_many 17 = .ok (.goto (-13), 3) := by decide +kernel
theorem dL_many_20 : decode cL_many 20 = .ok (.iload_n 1, 1) := by decide +kernel
theorem dL_many_21 : decode cL_many 21 = .ok (.ireturn, 1) := by decide +kernel
set_option maxRecDepth 20000 in
theorem ggL_over_L_areNext : GoodIn wsL_over wsL_areNext := goodIn_r _ [4] (by decide +kernel) (by decide +kernel)
set_option maxRecDepth 20000 in
theorem gL_over_L_areNext : GoodIn wsL_over (va_wsS RL 10 yL_areNext wsL_areNext) := goodIn_app (goodIn_of _ (by decide +kernel)) ggL_over_L_areNext
theorem dL_over_0 : decode cL_over 0 = .ok (.iconst 1, 1) := by decide +kernel
theorem dL_over_1 : decode cL_over 1 = .ok (.iload_n 1, 1) := by decide +kernel
theorem dL_over_2 : decode cL_over 2 = .ok (.ishl, 1) := by decide +kernel
theorem dL_over_3 : decode cL_over 3 = .ok (.istore_n 3, 1) := by decide +kernel
theorem dL_over_4 : decode cL_over 4 = .ok (.iconst 0, 1) := by decide +kernel
theorem dL_over_5 : decode cL_over 5 = .ok (.istore 4, 2) := by decide +kernel
theorem dL_over_7 : decode cL_over 7 = .ok (.iload_n 3, 1) := by decide +kernel
theorem dL_over_8 : decode cL_over 8 = .ok (.iload 4, 2) := by decide +kernel
theorem dL_over_10 : decode cL_over 10 = .ok (.if_icmp .eq 93, 3) := by decide +kernel
theorem dL_over_13 : decode cL_over 13 = .ok (.iload_n 3, 1) := by decide +kernel
theorem dL_over_14 : decode cL_over 14 = .ok (.istore 4, 2) := by decide +kernel
theorem dL_over_16 : decode cL_over 16 = .ok (.iconst 0, 1) := by decide +kernel
theorem dL_over_17 : decode cL_over 17 = .ok (.istore 5, 2) := by decide +kernel
theorem dL_over_19 : decode cL_over 19 = .ok (.iload 5, 2) := by decide +kernel
theorem dL_over_21 : decode cL_over 21 = .ok (.aload_n 0, 1) := by decide +kernel
theorem dL_over_22 : decode cL_over 22 = .ok (.iconst 0, 1) := by decide +kernel
theorem dL_over_23 : decode cL_over 23 = .ok (.iaload, 1) := by decide +kernel
theorem dL_over_24 : decode cL_over 24 = .ok (.aload_n 0, 1) := by decide +kernel
theorem dL_over_25 : decode cL_over 25 = .ok (.iconst 1, 1) := by decide +kernel
theorem dL_over_26 : decode cL_over 26 = .ok (.iaload, 1) := by decide +kernel
theorem dL_over_27 : decode cL_over 27 = .ok (.imul, 1) := by decide +kernel
theorem dL_over_28 : decode cL_over 28 = .ok (.if_icmp .ge 72, 3) := by decide +kernel
theorem dL_over_31 : decode cL_over 31 = .ok (.iconst 0, 1) := by decide +kernel
theorem dL_over_32 : decode cL_over 32 = .ok (.istore 6, 2) := by decide +kernel
theorem dL_over_34 : decode cL_over 34 = .ok (.iload 6, 2) := by decide +kernel
theorem dL_over_36 : decode cL_over 36 = .ok (.aload_n 0, 1) := by decide +kernel
theorem dL_over_37 : decode cL_over 37 = .ok (.iconst 0, 1) := by decide +kernel
theorem dL_over_38 : decode cL_over 38 = .ok (.iaload, 1) := by decide +kernel
theorem dL_over_39 : decode cL_over 39 = .ok (.aload_n 0, 1) := by decide +kernel
theorem dL_over_40 : decode cL_over 40 = .ok (.iconst 1, 1) := by decide +kernel
theorem dL_over_41 : decode cL_over 41 = .ok (.iaload, 1) := by decide +kernel
theorem dL_over_42 : decode cL_over 42 = .ok (.imul, 1) := by decide +kernel
theorem dL_over_43 : decode cL_over 43 = .ok (.if_icmp .ge 51, 3) := by decide +kernel
theorem dL_over_46 : decode cL_over 46 = .ok (.iload_n 3, 1) := by decide +kernel
theorem dL_over_47 : decode cL_over 47 = .ok (.iload_n 3, 1) := by decide +kernel
theorem dL_over_48 : decode cL_over 48 = .ok (.iload 6, 2) := by decide +kernel
theorem dL_over_50 : decode cL_over 50 = .ok (.ishr, 1) := by decide +kernel
theorem dL_over_51 : decode cL_over 51 = .ok (.iconst 1, 1) := by decide +kernel
theorem dL_over_52 : decode cL_over 52 = .ok (.iand, 1) := by decide +kernel
theorem dL_over_53 : decode cL_over 53 = .ok (.iconst 1, 1) := by decide +kernel
theorem dL_over_54 : decode cL_over 54 = .ok (.if_icmp .ne 31, 3) := by decide +kernel
theorem dL_over_57 : decode cL_over 57 = .ok (.iload_n 2, 1) := by decide +kernel
theorem dL_over_58 : decode cL_over 58 = .ok (.iload 5, 2) := by decide +kernel
theorem dL_over_60 : decode cL_over 60 = .ok (.ishr, 1) := by decide +kernel
theorem dL_over_61 : decode cL_over 61 = .ok (.iconst 1, 1) := by decide +kernel
theorem dL_over_62 : decode cL_over 62 = .ok (.iand, 1) := by decide +kernel
theorem dL_over_63 : decode cL_over 63 = .ok (.iconst 1, 1) := by decide +kernel
theorem dL_over_64 : decode cL_over 64 = .ok (.if_icmp .ne 21, 3) := by decide +kernel
theorem dL_over_67 : decode cL_over 67 = .ok (.aload_n 0, 1) := by decide +kernel
theorem dL_over_68 : decode cL_over 68 = .ok (.iload 6, 2) := by decide +kernel
theorem dL_over_70 : decode cL_over 70 = .ok (.iload 5, 2) := by decide +kernel
theorem dL_over_72 : decode cL_over 72 = .ok (.invokestatic 10, 3) := by decide +kernel
theorem dL_over_75 : decode cL_over 75 = .ok (.ifCond .eq 10, 3) := by decide +kernel
theorem dL_over_78 : decode cL_over 78 = .ok (.iconst 1, 1) := by decide +kernel
theorem dL_over_79 : decode cL_over 79 = .ok (.iload 5, 2) := by decide +kernel
theorem dL_over_81 : decode cL_over 81 = .ok (.ishl, 1) := by decide +kernel
theorem dL_over_82 : decode cL_over 82 = .ok (.goto 4, 3) := by decide +kernel
theorem dL_over_85 : decode cL_over 85 = .ok (.iconst 0, 1) := by decide +kernel
theorem dL_over_86 : decode cL_over 86 = .ok (.ior, 1) := by decide +kernel
theorem dL_over_87 : decode cL_over 87 = .ok (.istore_n 3, 1) := by decide +kernel
theorem dL_over_88 : decode cL_over 88 = .ok (.iinc 6 1, 3) := by decide +kernel
theorem dL_over_91 : decode cL_over 91 = .ok (.goto (-57), 3) := by decide +kernel
theorem dL_over_94 : decode cL_over 94 = .ok (.iinc 5 1, 3) := by decide +kernel
theorem dL_over_97 : decode cL_over 97 = .ok (.goto (-78), 3) := by decide +kernel
theorem dL_over_100 : decode cL_over 100 = .ok (.goto (-93), 3) := by decide +kernel
theorem dL_over_103 : decode cL_over 103 = .ok (.iload_n 3, 1) := by decide +kernel
theorem dL_over_104 : decode cL_over 104 = .ok (.ireturn, 1) := by decide +kernel
theorem dL_cellsOf_0 : decode cL_cellsOf 0 = .ok (.iconst 0, 1) := by decide +kernel
theorem dL_cellsOf_1 : decode cL_cellsOf 1 = .ok (.istore_n 3, 1) := by decide +kernel
theorem dL_cellsOf_2 : decode cL_cellsOf 2 = .ok (.iconst 0, 1) := by decide +kernel
theorem dL_cellsOf_3 : decode cL_cellsOf 3 = .ok (.istore 4, 2) := by decide +kernel
theorem dL_cellsOf_5 : decode cL_cellsOf 5 = .ok (.iload 4, 2) := by decide +kernel
theorem dL_cellsOf_7 : decode cL_cellsOf 7 = .ok (.aload_n 1, 1) := by decide +kernel
theorem dL_cellsOf_8 : decode cL_cellsOf 8 = .ok (.iconst 0, 1) := by decide +kernel
theorem dL_cellsOf_9 : decode cL_cellsOf 9 = .ok (.iaload, 1) := by decide +kernel
theorem dL_cellsOf_10 : decode cL_cellsOf 10 = .ok (.aload_n 1, 1) := by decide +kernel
theorem dL_cellsOf_11 : decode cL_cellsOf 11 = .ok (.iconst 1, 1) := by decide +kernel
theorem dL_cellsOf_12 : decode cL_cellsOf 12 = .ok (.iaload, 1) := by decide +kernel
theorem dL_cellsOf_13 : decode cL_cellsOf 13 = .ok (.imul, 1) := by decide +kernel
theorem dL_cellsOf_14 : decode cL_cellsOf 14 = .ok (.if_icmp .ge 28, 3) := by decide +kernel
theorem dL_cellsOf_17 : decode cL_cellsOf 17 = .ok (.iload_n 3, 1) := by decide +kernel
theorem dL_cellsOf_18 : decode cL_cellsOf 18 = .ok (.aload_n 0, 1) := by decide +kernel
theorem dL_cellsOf_19 : decode cL_cellsOf 19 = .ok (.iload 4, 2) := by decide +kernel
theorem dL_cellsOf_21 : decode cL_cellsOf 21 = .ok (.iaload, 1) := by decide +kernel
theorem dL_cellsOf_22 : decode cL_cellsOf 22 = .ok (.iload_n 2, 1) := by decide +kernel
theorem dL_cellsOf_23 : decode cL_cellsOf 23 = .ok (.if_icmp .ne 10, 3) := by decide +kernel
theorem dL_cellsOf_26 : decode cL_cellsOf 26 = .ok (.iconst 1, 1) := by decide +kernel
theorem dL_cellsOf_27 : decode cL_cellsOf 27 = .ok (.iload 4, 2) := by decide +kernel
theorem dL_cellsOf_29 : decode cL_cellsOf 29 = .ok (.ishl, 1) := by decide +kernel
theorem dL_cellsOf_30 : decode cL_cellsOf 30 = .ok (.goto 4, 3) := by decide +kernel
theorem dL_cellsOf_33 : decode cL_cellsOf 33 = .ok (.iconst 0, 1) := by decide +kernel
theorem dL_cellsOf_34 : decode cL_cellsOf 34 = .ok (.ior, 1) := by decide +kernel
theorem dL_cellsOf_35 : decode cL_cellsOf 35 = .ok (.istore_n 3, 1) := by decide +kernel
theorem dL_cellsOf_36 : decode cL_cellsOf 36 = .ok (.iinc 4 1, 3) := by decide +kernel
theorem dL_cellsOf_39 : decode cL_cellsOf 39 = .ok (.goto (-34), 3) := by decide +kernel
theorem dL_cellsOf_42 : decode cL_cellsOf 42 = .ok (.iload_n 3, 1) := by decide +kernel
theorem dL_cellsOf_43 : decode cL_cellsOf 43 = .ok (.ireturn, 1) := by decide +kernel
set_option maxRecDepth 20000 in
theorem ggL_isSound_L_cellsOf : GoodIn wsL_isSound wsL_cellsOf := goodIn_r _ [4] (by decide +kernel) (by decide +kernel)
set_option maxRecDepth 20000 in
theorem gL_isSound_L_cellsOf : GoodIn wsL_isSound (va_wsS RL 16 yL_cellsOf wsL_cellsOf) := goodIn_app (goodIn_of _ (by decide +kernel)) ggL_isSound_L_cellsOf
set_option maxRecDepth 20000 in
theorem ggL_isSound_L_over : GoodIn wsL_isSound wsL_over := goodIn_r _ [7, 8, 9, 3, 10] (by decide +kernel) (by decide +kernel)
set_option maxRecDepth 20000 in
theorem gL_isSound_L_over : GoodIn wsL_isSound (va_wsS RL 20 yL_over wsL_over) := goodIn_app (goodIn_of _ (by decide +kernel)) ggL_isSound_L_over
set_option maxRecDepth 20000 in
theorem ggL_isSound_L_many : GoodIn wsL_isSound wsL_many := goodIn_r _ [13] (by decide +kernel) (by decide +kernel)
set_option maxRecDepth 20000 in
theorem gL_isSound_L_many : GoodIn wsL_isSound (va_wsS RL 24 yL_many wsL_many) := goodIn_app (goodIn_of _ (by decide +kernel)) ggL_isSound_L_many
theorem dL_isSound_0 : decode cL_isSound 0 = .ok (.iconst 1, 1) := by decide +kernel
theorem dL_isSound_1 : decode cL_isSound 1 = .ok (.istore_n 2, 1) := by decide +kernel
theorem dL_isSound_2 : decode cL_isSound 2 = .ok (.iconst 0, 1) := by decide +kernel
theorem dL_isSound_3 : decode cL_isSound 3 = .ok (.istore_n 3, 1) := by decide +kernel
theorem dL_isSound_4 : decode cL_isSound 4 = .ok (.iload_n 3, 1) := by decide +kernel
theorem dL_isSound_5 : decode cL_isSound 5 = .ok (.aload_n 1, 1) := by decide +kernel
theorem dL_isSound_6 : decode cL_isSound 6 = .ok (.iconst 0, 1) := by decide +kernel
theorem dL_isSound_7 : decode cL_isSound 7 = .ok (.iaload, 1) := by decide +kernel
theorem dL_isSound_8 : decode cL_isSound 8 = .ok (.aload_n 1, 1) := by decide +kernel
theorem dL_isSound_9 : decode cL_isSound 9 = .ok (.iconst 1, 1) := by decide +kernel
theorem dL_isSound_10 : decode cL_isSound 10 = .ok (.iaload, 1) := by decide +kernel
theorem dL_isSound_11 : decode cL_isSound 11 = .ok (.imul, 1) := by decide +kernel
theorem dL_isSound_12 : decode cL_isSound 12 = .ok (.if_icmp .ge 74, 3) := by decide +kernel
theorem dL_isSound_15 : decode cL_isSound 15 = .ok (.iload_n 2, 1) := by decide +kernel
theorem dL_isSound_16 : decode cL_isSound 16 = .ok (.ifCond .eq 70, 3) := by decide +kernel
theorem dL_isSound_19 : decode cL_isSound 19 = .ok (.aload_n 0, 1) := by decide +kernel
theorem dL_isSound_20 : decode cL_isSound 20 = .ok (.aload_n 1, 1) := by decide +kernel
theorem dL_isSound_21 : decode cL_isSound 21 = .ok (.aload_n 0, 1) := by decide +kernel
theorem dL_isSound_22 : decode cL_isSound 22 = .ok (.iload_n 3, 1) := by decide +kernel
theorem dL_isSound_23 : decode cL_isSound 23 = .ok (.iaload, 1) := by decide +kernel
theorem dL_isSound_24 : decode cL_isSound 24 = .ok (.invokestatic 16, 3) := by decide +kernel
theorem dL_isSound_27 : decode cL_isSound 27 = .ok (.istore 4, 2) := by decide +kernel
theorem dL_isSound_29 : decode cL_isSound 29 = .ok (.aload_n 0, 1) := by decide +kernel
theorem dL_isSound_30 : decode cL_isSound 30 = .ok (.iload_n 3, 1) := by decide +kernel
theorem dL_isSound_31 : decode cL_isSound 31 = .ok (.iaload, 1) := by decide +kernel
theorem dL_isSound_32 : decode cL_isSound 32 = .ok (.ifCond .eq 42, 3) := by decide +kernel
theorem dL_isSound_35 : decode cL_isSound 35 = .ok (.aload_n 1, 1) := by decide +kernel
theorem dL_isSound_36 : decode cL_isSound 36 = .ok (.iload_n 3, 1) := by decide +kernel
theorem dL_isSound_37 : decode cL_isSound 37 = .ok (.iload 4, 2) := by decide +kernel
theorem dL_isSound_39 : decode cL_isSound 39 = .ok (.invokestatic 20, 3) := by decide +kernel
theorem dL_isSound_42 : decode cL_isSound 42 = .ok (.invokestatic 24, 3) := by decide +kernel
theorem dL_isSound_45 : decode cL_isSound 45 = .ok (.aload_n 0, 1) := by decide +kernel
theorem dL_isSound_46 : decode cL_isSound 46 = .ok (.iload_n 3, 1) := by decide +kernel
theorem dL_isSound_47 : decode cL_isSound 47 = .ok (.iaload, 1) := by decide +kernel
theorem dL_isSound_48 : decode cL_isSound 48 = .ok (.if_icmp .gt 30, 3) := by decide +kernel
theorem dL_isSound_51 : decode cL_isSound 51 = .ok (.aload_n 1, 1) := by decide +kernel
theorem dL_isSound_52 : decode cL_isSound 52 = .ok (.iload_n 3, 1) := by decide +kernel
theorem dL_isSound_53 : decode cL_isSound 53 = .ok (.iload 4, 2) := by decide +kernel
theorem dL_isSound_55 : decode cL_isSound 55 = .ok (.aload_n 0, 1) := by decide +kernel
theorem dL_isSound_56 : decode cL_isSound 56 = .ok (.aload_n 1, 1) := by decide +kernel
theorem dL_isSound_57 : decode cL_isSound 57 = .ok (.iconst 0, 1) := by decide +kernel
theorem dL_isSound_58 : decode cL_isSound 58 = .ok (.invokestatic 16, 3) := by decide +kernel
theorem dL_isSound_61 : decode cL_isSound 61 = .ok (.ior, 1) := by decide +kernel
theorem dL_isSound_62 : decode cL_isSound 62 = .ok (.invokestatic 20, 3) := by decide +kernel
theorem dL_isSound_65 : decode cL_isSound 65 = .ok (.invokestatic 24, 3) := by decide +kernel
theorem dL_isSound_68 : decode cL_isSound 68 = .ok (.aload_n 0, 1) := by decide +kernel
theorem dL_isSound_69 : decode cL_isSound 69 = .ok (.iload_n 3, 1) := by decide +kernel
theorem dL_isSound_70 : decode cL_isSound 70 = .ok (.iaload, 1) := by decide +kernel
theorem dL_isSound_71 : decode cL_isSound 71 = .ok (.if_icmp .lt 7, 3) := by decide +kernel
theorem dL_isSound_74 : decode cL_isSound 74 = .ok (.iconst 1, 1) := by decide +kernel
theorem dL_isSound_75 : decode cL_isSound 75 = .ok (.goto 4, 3) := by decide +kernel
theorem dL_isSound_78 : decode cL_isSound 78 = .ok (.iconst 0, 1) := by decide +kernel
theorem dL_isSound_79 : decode cL_isSound 79 = .ok (.istore_n 2, 1) := by decide +kernel
theorem dL_isSound_80 : decode cL_isSound 80 = .ok (.iinc 3 1, 3) := by decide +kernel
theorem dL_isSound_83 : decode cL_isSound 83 = .ok (.goto (-79), 3) := by decide +kernel
theorem dL_isSound_86 : decode cL_isSound 86 = .ok (.iload_n 2, 1) := by decide +kernel
theorem dL_isSound_87 : decode cL_isSound 87 = .ok (.ireturn, 1) := by decide +kernel
set_option maxRecDepth 20000 in
theorem ggL_isBoard_X4_area : GoodIn wsL_isBoard wsX4_area := goodIn_r _ [5, 6, 7, 8, 9, 10, 11, 12, 13, 14, 15, 16, 17, 18, 143, 144, 145, 146, 147, 148, 149, 150, 151, 152, 153] (by decide +kernel) (by decide +kernel)
set_option maxRecDepth 20000 in
theorem gL_isBoard_X4_area : GoodIn wsL_isBoard (wsV RL 28 RX4 yX4_area wsX4_area) := goodIn_app (goodIn_of _ (by decide +kernel)) ggL_isBoard_X4_area
set_option maxRecDepth 20000 in
theorem ggL_isBoard_X4_filled : GoodIn wsL_isBoard wsX4_filled := goodIn_r _ [22, 23, 143, 144, 145, 146, 147, 148] (by decide +kernel) (by decide +kernel)
set_option maxRecDepth 20000 in
theorem gL_isBoard_X4_filled : GoodIn wsL_isBoard (wsV RL 34 RX4 yX4_filled wsX4_filled) := goodIn_app (goodIn_of _ (by decide +kernel)) ggL_isBoard_X4_filled
set_option maxRecDepth 20000 in
theorem ggL_isBoard_L_isSound : GoodIn wsL_isBoard wsL_isSound := goodIn_r _ [27, 28, 29, 26, 30, 31, 32, 33, 34, 35, 36, 37, 38, 39] (by decide +kernel) (by decide +kernel)
set_option maxRecDepth 20000 in
theorem gL_isBoard_L_isSound : GoodIn wsL_isBoard (va_wsS RL 37 yL_isSound wsL_isSound) := goodIn_app (goodIn_of _ (by decide +kernel)) ggL_isBoard_L_isSound
set_option maxRecDepth 20000 in
theorem ggL_isBoard_L_cellsOf : GoodIn wsL_isBoard wsL_cellsOf := goodIn_r _ [30] (by decide +kernel) (by decide +kernel)
set_option maxRecDepth 20000 in
theorem gL_isBoard_L_cellsOf : GoodIn wsL_isBoard (va_wsS RL 16 yL_cellsOf wsL_cellsOf) := goodIn_app (goodIn_of _ (by decide +kernel)) ggL_isBoard_L_cellsOf
set_option maxRecDepth 20000 in
theorem ggL_isBoard_L_over : GoodIn wsL_isBoard wsL_over := goodIn_r _ [33, 34, 35, 26, 36] (by decide +kernel) (by decide +kernel)
set_option maxRecDepth 20000 in
theorem gL_isBoard_L_over : GoodIn wsL_isBoard (va_wsS RL 20 yL_over wsL_over) := goodIn_app (goodIn_of _ (by decide +kernel)) ggL_isBoard_L_over
set_option maxRecDepth 20000 in
theorem ggL_isBoard_L_many : GoodIn wsL_isBoard wsL_many := goodIn_r _ [39] (by decide +kernel) (by decide +kernel)
set_option maxRecDepth 20000 in
theorem gL_isBoard_L_many : GoodIn wsL_isBoard (va_wsS RL 24 yL_many wsL_many) := goodIn_app (goodIn_of _ (by decide +kernel)) ggL_isBoard_L_many
set_option maxRecDepth 20000 in
theorem ggL_isBoard_X4_at : GoodIn wsL_isBoard wsX4_at := goodIn_ca (goodIn_r _ [43, 6, 44, 45, 46, 4, 47, 48, 49, 7, 8, 9, 10, 11, 12, 13, 14, 15, 16, 17, 18, 50, 51, 52, 53, 54, 55, 56, 57, 58, 59, 143, 144, 145, 146, 147, 148, 149, 150, 151, 152, 153] (by decide +kernel) (by decide +kernel)) (goodIn_sub (fun _ h => List.mem_cons_of_mem _ (List.mem_append_left _ (List.mem_append_right _ h))) (by decide +kernel))
set_option maxRecDepth 20000 in
theorem gL_isBoard_X4_at : GoodIn wsL_isBoard (wsV RL 41 RX4 yX4_at wsX4_at) := goodIn_app (goodIn_of _ (by decide +kernel)) ggL_isBoard_X4_at
set_option maxRecDepth 20000 in
theorem ggL_isBoard_X4_isClue : GoodIn wsL_isBoard wsX4_isClue := goodIn_ca (goodIn_r _ [63, 64, 44, 45, 46, 4, 47, 48, 49, 6, 7, 8, 9, 10, 11, 12, 13, 14, 15, 16, 17, 18, 50, 51, 52, 53, 54, 55, 56, 57, 58, 59, 143, 144, 145, 146, 147, 148, 149, 150, 151, 152, 153] (by decide +kernel) (by decide +kernel)) (goodIn_sub (fun _ h => List.mem_cons_of_mem _ (List.mem_append_left _ (List.mem_append_right _ h))) (by decide +kernel))
set_option maxRecDepth 20000 in
theorem gL_isBoard_X4_isClue : GoodIn wsL_isBoard (wsV RL 44 RX4 yX4_isClue wsX4_isClue) := goodIn_app (goodIn_of _ (by decide +kernel)) ggL_isBoard_X4_isClue
set_option maxRecDepth 20000 in
theorem ggL_isBoard_X4_size : GoodIn wsL_isBoard wsX4_size := goodIn_ca (goodIn_r _ [68, 6, 44, 45, 46, 4, 47, 48, 49, 7, 8, 9, 10, 11, 12, 13, 14, 15, 16, 17, 18, 69, 70, 71, 72, 50, 51, 52, 53, 54, 55, 56, 57, 58, 59, 73, 74, 75, 76, 77, 78, 79, 80, 81, 82, 83, 84, 85, 86, 87, 88, 143, 144, 145, 146, 147, 148, 149, 150, 151, 152, 153] (by decide +kernel) (by decide +kernel)) (goodIn_sub (fun _ h => List.mem_cons_of_mem _ (List.mem_append_left _ (List.mem_append_right _ h))) (by decide +kernel))
set_option maxRecDepth 20000 in
theorem gL_isBoard_X4_size : GoodIn wsL_isBoard (wsV RL 48 RX4 yX4_size wsX4_size) := goodIn_app (goodIn_of _ (by decide +kernel)) ggL_isBoard_X4_size
set_option maxRecDepth 20000 in
theorem ggL_isBoard_X4_room : GoodIn wsL_isBoard wsX4_room := goodIn_ca (goodIn_r _ [92, 6, 44, 45, 46, 4, 47, 48, 49, 7, 8, 9, 10, 11, 12, 13, 14, 15, 16, 17, 18, 93, 94, 95, 72, 50, 51, 52, 53, 54, 55, 56, 57, 58, 59, 73, 74, 75, 76, 96, 97, 98, 99, 77, 78, 79, 80, 81, 82, 83, 84, 85, 86, 87, 88, 143, 144, 145, 146, 147, 148, 149, 150, 151, 152, 153] (by decide +kernel) (by decide +kernel)) (goodIn_sub (fun _ h => List.mem_cons_of_mem _ (List.mem_append_left _ (List.mem_append_right _ h))) (by decide +kernel))
set_option maxRecDepth 20000 in
theorem gL_isBoard_X4_room : GoodIn wsL_isBoard (wsV RL 51 RX4 yX4_room wsX4_room) := goodIn_app (goodIn_of _ (by decide +kernel)) ggL_isBoard_X4_room
set_option maxRecDepth 20000 in
theorem ggL_isBoard_X4_isSolved : GoodIn wsL_isBoard wsX4_isSolved := goodIn_r _ [103, 6, 97, 8, 98, 99, 73, 74, 75, 76, 53, 104, 105, 106, 107, 108, 109, 110, 111, 112, 113, 77, 78, 79, 80, 81, 82, 83, 84, 85, 86, 87, 11, 12, 13, 14, 15, 16, 17, 18, 114, 115, 116, 117, 96, 143, 144, 145, 146, 147, 148, 149, 150, 151, 152, 153] (by decide +kernel) (by decide +kernel)
set_option maxRecDepth 20000 in
theorem gL_isBoard_X4_isSolved : GoodIn wsL_isBoard (wsV RL 54 RX4 yX4_isSolved wsX4_isSolved) := goodIn_app (goodIn_of _ (by decide +kernel)) ggL_isBoard_X4_isSolved
set_option maxRecDepth 20000 in
theorem ggL_isBoard_X4_solutions : GoodIn wsL_isBoard wsX4_solutions := goodIn_ca (goodIn_r _ [121, 122, 123, 6, 124, 125, 126, 7, 8, 9, 10, 11, 12, 13, 14, 15, 16, 17, 18, 50, 51, 52, 53, 54, 55, 56, 57, 58, 59, 127, 128, 129, 73, 74, 75, 76, 130, 131, 132, 133, 96, 97, 98, 99, 134, 135, 136, 137, 138, 139, 140, 141, 69, 70, 71, 72, 77, 78, 79, 80, 81, 82, 83, 84, 85, 86, 87, 114, 115, 116, 117, 111, 112, 113, 142, 143, 144, 145, 146, 147, 148, 149, 150, 151, 152, 153] (by decide +kernel) (by decide +kernel)) (goodIn_sub (fun _ h => List.mem_cons_of_mem _ (List.mem_append_right _ h)) (by decide +kernel))
set_option maxRecDepth 20000 in
theorem gL_isBoard_X4_solutions : GoodIn wsL_isBoard (wsV RL 58 RX4 yX4_solutions wsX4_solutions) := goodIn_app (goodIn_of _ (by decide +kernel)) ggL_isBoard_X4_solutions
theorem dL_isBoard_0 : decode cL_isBoard 0 = .ok (.aload_n 0, 1) := by decide +kernel
theorem dL_isBoard_1 : decode cL_isBoard 1 = .ok (.invokevirtual 28, 3) := by decide +kernel
theorem dL_isBoard_4 : decode cL_isBoard 4 = .ok (.aload_n 3, 1) := by decide +kernel
theorem dL_isBoard_5 : decode cL_isBoard 5 = .ok (.iconst 0, 1) := by decide +kernel
theorem dL_isBoard_6 : decode cL_isBoard 6 = .ok (.iaload, 1) := by decide +kernel
theorem dL_isBoard_7 : decode cL_isBoard 7 = .ok (.aload_n 3, 1) := by decide +kernel
theorem dL_isBoard_8 : decode cL_isBoard 8 = .ok (.iconst 1, 1) := by decide +kernel
theorem dL_isBoard_9 : decode cL_isBoard 9 = .ok (.iaload, 1) := by decide +kernel
theorem dL_isBoard_10 : decode cL_isBoard 10 = .ok (.imul, 1) := by decide +kernel
theorem dL_isBoard_11 : decode cL_isBoard 11 = .ok (.if_icmp .ne 25, 3) := by decide +kernel
theorem dL_isBoard_14 : decode cL_isBoard 14 = .ok (.aload_n 0, 1) := by decide +kernel
theorem dL_isBoard_15 : decode cL_isBoard 15 = .ok (.invokevirtual 34, 3) := by decide +kernel
theorem dL_isBoard_18 : decode cL_isBoard 18 = .ok (.aload_n 3, 1) := by decide +kernel
theorem dL_isBoard_19 : decode cL_isBoard 19 = .ok (.iconst 2, 1) := by decide +kernel
theorem dL_isBoard_20 : decode cL_isBoard 20 = .ok (.iaload, 1) := by decide +kernel
theorem dL_isBoard_21 : decode cL_isBoard 21 = .ok (.if_icmp .ne 15, 3) := by decide +kernel
theorem dL_isBoard_24 : decode cL_isBoard 24 = .ok (.aload_n 1, 1) := by decide +kernel
theorem dL_isBoard_25 : decode cL_isBoard 25 = .ok (.aload_n 3, 1) := by decide +kernel
theorem dL_isBoard_26 : decode cL_isBoard 26 = .ok (.invokestatic 37, 3) := by decide +kernel
theorem dL_isBoard_29 : decode cL_isBoard 29 = .ok (.ifCond .eq 7, 3) := by decide +kernel
theorem dL_isBoard_32 : decode cL_isBoard 32 = .ok (.iconst 1, 1) := by decide +kernel
theorem dL_isBoard_33 : decode cL_isBoard 33 = .ok (.goto 4, 3) := by decide +kernel
theorem dL_isBoard_36 : decode cL_isBoard 36 = .ok (.iconst 0, 1) := by decide +kernel
theorem dL_isBoard_37 : decode cL_isBoard 37 = .ok (.istore 4, 2) := by decide +kernel
theorem dL_isBoard_39 : decode cL_isBoard 39 = .ok (.iconst 1, 1) := by decide +kernel
theorem dL_isBoard_40 : decode cL_isBoard 40 = .ok (.istore 5, 2) := by decide +kernel
theorem dL_isBoard_42 : decode cL_isBoard 42 = .ok (.iconst 0, 1) := by decide +kernel
theorem dL_isBoard_43 : decode cL_isBoard 43 = .ok (.istore 6, 2) := by decide +kernel
theorem dL_isBoard_45 : decode cL_isBoard 45 = .ok (.iload 6, 2) := by decide +kernel
theorem dL_isBoard_47 : decode cL_isBoard 47 = .ok (.aload_n 3, 1) := by decide +kernel
theorem dL_isBoard_48 : decode cL_isBoard 48 = .ok (.iconst 0, 1) := by decide +kernel
theorem dL_isBoard_49 : decode cL_isBoard 49 = .ok (.iaload, 1) := by decide +kernel
theorem dL_isBoard_50 : decode cL_isBoard 50 = .ok (.aload_n 3, 1) := by decide +kernel
theorem dL_isBoard_51 : decode cL_isBoard 51 = .ok (.iconst 1, 1) := by decide +kernel
theorem dL_isBoard_52 : decode cL_isBoard 52 = .ok (.iaload, 1) := by decide +kernel
theorem dL_isBoard_53 : decode cL_isBoard 53 = .ok (.imul, 1) := by decide +kernel
theorem dL_isBoard_54 : decode cL_isBoard 54 = .ok (.if_icmp .ge 170, 3) := by decide +kernel
theorem dL_isBoard_57 : decode cL_isBoard 57 = .ok (.iload 4, 2) := by decide +kernel
theorem dL_isBoard_59 : decode cL_isBoard 59 = .ok (.ifCond .eq 165, 3) := by decide +kernel
