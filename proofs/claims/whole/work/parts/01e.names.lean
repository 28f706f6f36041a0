theorem dX4_isSide_1 : decode cX4_isSide 1 = .ok (.iconst 2, 1) := by decide +kernel
theorem dX4_isSide_2 : decode cX4_isSide 2 = .ok (.if_icmp .lt 12, 3) := by decide +kernel
theorem dX4_isSide_5 : decode cX4_isSide 5 = .ok (.iload_n 0, 1) := by decide +kernel
theorem dX4_isSide_6 : decode cX4_isSide 6 = .ok (.iconst 4, 1) := by decide +kernel
theorem dX4_isSide_7 : decode cX4_isSide 7 = .ok (.if_icmp .gt 7, 3) := by decide +kernel
theorem dX4_isSide_10 : decode cX4_isSide 10 = .ok (.iconst 1, 1) := by decide +kernel
theorem dX4_isSide_11 : decode cX4_isSide 11 = .ok (.goto 4, 3) := by decide +kernel
theorem dX4_isSide_14 : decode cX4_isSide 14 = .ok (.iconst 0, 1) := by decide +kernel
theorem dX4_isSide_15 : decode cX4_isSide 15 = .ok (.ireturn, 1) := by decide +kernel
set_option maxRecDepth 20000 in
theorem ggX4_requireCell_X0_cellCount : GoodIn wsX4_requireCell wsX0_cellCount := goodIn_r _ [7, 8, 9, 10, 11, 12, 13, 14, 15, 22, 23, 24, 25, 26] (by decide +kernel) (by decide +kernel)
set_option maxRecDepth 20000 in
theorem gX4_requireCell_X0_cellCount_n60 : GoodIn wsX4_requireCell (wsX0_cellCount) := ggX4_requireCell_X0_cellCount
theorem dX4_requireCell_0 : decode cX4_requireCell 0 = .ok (.iload_n 1, 1) := by decide +kernel
theorem dX4_requireCell_1 : decode cX4_requireCell 1 = .ok (.ifCond .lt 14, 3) := by decide +kernel
theorem dX4_requireCell_4 : decode cX4_requireCell 4 = .ok (.iload_n 1, 1) := by decide +kernel
theorem dX4_requireCell_5 : decode cX4_requireCell 5 = .ok (.aload_n 0, 1) := by decide +kernel
theorem dX4_requireCell_6 : decode cX4_requireCell 6 = .ok (.getfield 18, 3) := by decide +kernel
theorem dX4_requireCell_9 : decode cX4_requireCell 9 = .ok (.invokevirtual 60, 3) := by decide +kernel
theorem dX4_requireCell_12 : decode cX4_requireCell 12 = .ok (.if_icmp .lt 13, 3) := by decide +kernel
theorem dX4_requireCell_15 : decode cX4_requireCell 15 = .ok (.new 164, 3) := by decide +kernel
theorem dX4_requireCell_18 : decode cX4_requireCell 18 = .ok (.dup, 1) := by decide +kernel
theorem dX4_requireCell_19 : decode cX4_requireCell 19 = .ok (.ldc 166, 2) := by decide +kernel
theorem dX4_requireCell_21 : decode cX4_requireCell 21 = .ok (.invokespecial 168, 3) := by decide +kernel
theorem dX4_requireCell_24 : decode cX4_requireCell 24 = .ok (.athrow, 1) := by decide +kernel
theorem dX4_requireCell_25 : decode cX4_requireCell 25 = .ok (.return_, 1) := by decide +kernel
theorem dX4_requireNumber_0 : decode cX4_requireNumber 0 = .ok (.iload_n 0, 1) := by decide +kernel
theorem dX4_requireNumber_1 : decode cX4_requireNumber 1 = .ok (.iconst 1, 1) := by decide +kernel
theorem dX4_requireNumber_2 : decode cX4_requireNumber 2 = .ok (.if_icmp .lt 9, 3) := by decide +kernel
theorem dX4_requireNumber_5 : decode cX4_requireNumber 5 = .ok (.iload_n 0, 1) := by decide +kernel
theorem dX4_requireNumber_6 : decode cX4_requireNumber 6 = .ok (.bipush 9, 2) := by decide +kernel
theorem dX4_requireNumber_8 : decode cX4_requireNumber 8 = .ok (.if_icmp .le 13, 3) := by decide +kernel
theorem dX4_requireNumber_11 : decode cX4_requireNumber 11 = .ok (.new 47, 3) := by decide +kernel
theorem dX4_requireNumber_14 : decode cX4_requireNumber 14 = .ok (.dup, 1) := by decide +kernel
theorem dX4_requireNumber_15 : decode cX4_requireNumber 15 = .ok (.ldc 169, 2) := by decide +kernel
theorem dX4_requireNumber_17 : decode cX4_requireNumber 17 = .ok (.invokespecial 51, 3) := by decide +kernel
theorem dX4_requireNumber_20 : decode cX4_requireNumber 20 = .ok (.athrow, 1) := by decide +kernel
theorem dX4_requireNumber_21 : decode cX4_requireNumber 21 = .ok (.return_, 1) := by decide +kernel
set_option maxRecDepth 20000 in
theorem ggX4_showCluesAlone_X0_copyFrom : GoodIn wsX4_showCluesAlone wsX0_copyFrom := goodIn_r _ [7, 8, 9, 10, 11, 12, 19, 20, 21, 22, 23] (by decide +kernel) (by decide +kernel)
set_option maxRecDepth 20000 in
theorem gX4_showCluesAlone_X0_copyFrom_n171 : GoodIn wsX4_showCluesAlone (wsX0_copyFrom) := ggX4_showCluesAlone_X0_copyFrom
theorem dX4_showCluesAlone_0 : decode cX4_showCluesAlone 0 = .ok (.aload_n 0, 1) := by decide +kernel
theorem dX4_showCluesAlone_1 : decode cX4_showCluesAlone 1 = .ok (.getfield 18, 3) := by decide +kernel
theorem dX4_showCluesAlone_4 : decode cX4_showCluesAlone 4 = .ok (.aload_n 0, 1) := by decide +kernel
theorem dX4_showCluesAlone_5 : decode cX4_showCluesAlone 5 = .ok (.getfield 12, 3) := by decide +kernel
theorem dX4_showCluesAlone_8 : decode cX4_showCluesAlone 8 = .ok (.invokevirtual 171, 3) := by decide +kernel
theorem dX4_showCluesAlone_11 : decode cX4_showCluesAlone 11 = .ok (.aload_n 0, 1) := by decide +kernel
theorem dX4_showCluesAlone_12 : decode cX4_showCluesAlone 12 = .ok (.iconst 0, 1) := by decide +kernel
theorem dX4_showCluesAlone_13 : decode cX4_showCluesAlone 13 = .ok (.putfield 25, 3) := by decide +kernel
theorem dX4_showCluesAlone_16 : decode cX4_showCluesAlone 16 = .ok (.return_, 1) := by decide +kernel
set_option maxRecDepth 20000 in
theorem ggX4_putAndLog_X0_write : GoodIn wsX4_putAndLog wsX0_write := goodIn_r _ [7, 8, 9, 10, 5, 11, 18, 19, 20, 21, 22] (by decide +kernel) (by decide +kernel)
set_option maxRecDepth 20000 in
theorem gX4_putAndLog_X0_write_n75 : GoodIn wsX4_putAndLog (wsX0_write) := ggX4_putAndLog_X0_write
theorem dX4_putAndLog_0 : decode cX4_putAndLog 0 = .ok (.aload_n 0, 1) := by decide +kernel
theorem dX4_putAndLog_1 : decode cX4_putAndLog 1 = .ok (.getfield 25, 3) := by decide +kernel
theorem dX4_putAndLog_4 : decode cX4_putAndLog 4 = .ok (.ifCond .lt 44, 3) := by decide +kernel
theorem dX4_putAndLog_7 : decode cX4_putAndLog 7 = .ok (.aload_n 0, 1) := by decide +kernel
theorem dX4_putAndLog_8 : decode cX4_putAndLog 8 = .ok (.getfield 25, 3) := by decide +kernel
theorem dX4_putAndLog_11 : decode cX4_putAndLog 11 = .ok (.aload_n 0, 1) := by decide +kernel
theorem dX4_putAndLog_12 : decode cX4_putAndLog 12 = .ok (.getfield 21, 3) := by decide +kernel
theorem dX4_putAndLog_15 : decode cX4_putAndLog 15 = .ok (.arraylength, 1) := by decide +kernel
theorem dX4_putAndLog_16 : decode cX4_putAndLog 16 = .ok (.if_icmp .ge 32, 3) := by decide +kernel
theorem dX4_putAndLog_19 : decode cX4_putAndLog 19 = .ok (.aload_n 0, 1) := by decide +kernel
theorem dX4_putAndLog_20 : decode cX4_putAndLog 20 = .ok (.getfield 18, 3) := by decide +kernel
theorem dX4_putAndLog_23 : decode cX4_putAndLog 23 = .ok (.iload_n 1, 1) := by decide +kernel
theorem dX4_putAndLog_24 : decode cX4_putAndLog 24 = .ok (.iload_n 2, 1) := by decide +kernel
theorem dX4_putAndLog_25 : decode cX4_putAndLog 25 = .ok (.invokevirtual 75, 3) := by decide +kernel
theorem dX4_putAndLog_28 : decode cX4_putAndLog 28 = .ok (.aload_n 0, 1) := by decide +kernel
theorem dX4_putAndLog_29 : decode cX4_putAndLog 29 = .ok (.getfield 21, 3) := by decide +kernel
theorem dX4_putAndLog_32 : decode cX4_putAndLog 32 = .ok (.aload_n 0, 1) := by decide +kernel
theorem dX4_putAndLog_33 : decode cX4_putAndLog 33 = .ok (.getfield 25, 3) := by decide +kernel
theorem dX4_putAndLog_36 : decode cX4_putAndLog 36 = .ok (.iload_n 1, 1) := by decide +kernel
theorem dX4_putAndLog_37 : decode cX4_putAndLog 37 = .ok (.iastore, 1) := by decide +kernel
theorem dX4_putAndLog_38 : decode cX4_putAndLog 38 = .ok (.aload_n 0, 1) := by decide +kernel
theorem dX4_putAndLog_39 : decode cX4_putAndLog 39 = .ok (.dup, 1) := by decide +kernel
theorem dX4_putAndLog_40 : decode cX4_putAndLog 40 = .ok (.getfield 25, 3) := by decide +kernel
theorem dX4_putAndLog_43 : decode cX4_putAndLog 43 = .ok (.iconst 1, 1) := by decide +kernel
theorem dX4_putAndLog_44 : decode cX4_putAndLog 44 = .ok (.iadd, 1) := by decide +kernel
theorem dX4_putAndLog_45 : decode cX4_putAndLog 45 = .ok (.putfield 25, 3) := by decide +kernel
theorem dX4_putAndLog_48 : decode cX4_putAndLog 48 = .ok (.return_, 1) := by decide +kernel
set_option maxRecDepth 20000 in
theorem ggX4_takeIfNotNeeded_X0_numberIn : GoodIn wsX4_takeIfNotNeeded wsX0_numberIn := goodIn_r _ [5, 6, 7, 8, 3, 9, 10, 11, 12, 79, 80, 81, 82, 83] (by decide +kernel) (by decide +kernel)
set_option maxRecDepth 20000 in
theorem gX4_takeIfNotNeeded_X0_numberIn_n71 : GoodIn wsX4_takeIfNotNeeded (wsX0_numberIn) := ggX4_takeIfNotNeeded_X0_numberIn
set_option maxRecDepth 20000 in
theorem ggX4_takeIfNotNeeded_X0_write : GoodIn wsX4_takeIfNotNeeded wsX0_write := goodIn_r _ [15, 6, 10, 11, 3, 12, 79, 80, 81, 82, 83] (by decide +kernel) (by decide +kernel)
set_option maxRecDepth 20000 in
theorem gX4_takeIfNotNeeded_X0_write_n75 : GoodIn wsX4_takeIfNotNeeded (wsX0_write) := ggX4_takeIfNotNeeded_X0_write
set_option maxRecDepth 20000 in
theorem ggX4_takeIfNotNeeded_X3_countSolutions : GoodIn wsX4_takeIfNotNeeded wsX3_countSolutions := goodIn_r _ [18, 19, 3, 20, 21, 22, 23, 24, 25, 26, 27, 28, 29, 2, 4, 5, 6, 7, 8, 9, 10, 11, 12, 30, 31, 32, 33, 34, 35, 36, 37, 38, 39, 40, 41, 42, 43, 44, 45, 46, 47, 48, 13, 14, 15, 49, 50, 51, 52, 53, 54, 55, 56, 57, 58, 59, 60, 61, 62, 63, 64, 65, 66, 67, 68, 69, 70, 71, 72, 16, 17, 79, 80, 81, 82, 83] (by decide +kernel) (by decide +kernel)
set_option maxRecDepth 20000 in
theorem gX4_takeIfNotNeeded_X3_countSolutions_n160 : GoodIn wsX4_takeIfNotNeeded (wsX3_countSolutions) := ggX4_takeIfNotNeeded_X3_countSolutions
theorem dX4_takeIfNotNeeded_0 : decode cX4_takeIfNotNeeded 0 = .ok (.aload_n 0, 1) := by decide +kernel
theorem dX4_takeIfNotNeeded_1 : decode cX4_takeIfNotNeeded 1 = .ok (.getfield 12, 3) := by decide +kernel
theorem dX4_takeIfNotNeeded_4 : decode cX4_takeIfNotNeeded 4 = .ok (.iload_n 1, 1) := by decide +kernel
theorem dX4_takeIfNotNeeded_5 : decode cX4_takeIfNotNeeded 5 = .ok (.invokevirtual 71, 3) := by decide +kernel
theorem dX4_takeIfNotNeeded_8 : decode cX4_takeIfNotNeeded 8 = .ok (.istore_n 2, 1) := by decide +kernel
theorem dX4_takeIfNotNeeded_9 : decode cX4_takeIfNotNeeded 9 = .ok (.iload_n 2, 1) := by decide +kernel
theorem dX4_takeIfNotNeeded_10 : decode cX4_takeIfNotNeeded 10 = .ok (.ifCond .ne 4, 3) := by decide +kernel
theorem dX4_takeIfNotNeeded_13 : decode cX4_takeIfNotNeeded 13 = .ok (.return_, 1) := by decide +kernel
theorem dX4_takeIfNotNeeded_14 : decode cX4_takeIfNotNeeded 14 = .ok (.aload_n 0, 1) := by decide +kernel
theorem dX4_takeIfNotNeeded_15 : decode cX4_takeIfNotNeeded 15 = .ok (.getfield 12, 3) := by decide +kernel
theorem dX4_takeIfNotNeeded_18 : decode cX4_takeIfNotNeeded 18 = .ok (.iload_n 1, 1) := by decide +kernel
theorem dX4_takeIfNotNeeded_19 : decode cX4_takeIfNotNeeded 19 = .ok (.iconst 0, 1) := by decide +kernel
theorem dX4_takeIfNotNeeded_20 : decode cX4_takeIfNotNeeded 20 = .ok (.invokevirtual 75, 3) := by decide +kernel
theorem dX4_takeIfNotNeeded_23 : decode cX4_takeIfNotNeeded 23 = .ok (.aload_n 0, 1) := by decide +kernel
theorem dX4_takeIfNotNeeded_24 : decode cX4_takeIfNotNeeded 24 = .ok (.getfield 12, 3) := by decide +kernel
theorem dX4_takeIfNotNeeded_27 : decode cX4_takeIfNotNeeded 27 = .ok (.iconst 0, 1) := by decide +kernel
theorem dX4_takeIfNotNeeded_28 : decode cX4_takeIfNotNeeded 28 = .ok (.iconst 2, 1) := by decide +kernel
theorem dX4_takeIfNotNeeded_29 : decode cX4_takeIfNotNeeded 29 = .ok (.invokestatic 160, 3) := by decide +kernel
theorem dX4_takeIfNotNeeded_32 : decode cX4_takeIfNotNeeded 32 = .ok (.iconst 1, 1) := by decide +kernel
theorem dX4_takeIfNotNeeded_33 : decode cX4_takeIfNotNeeded 33 = .ok (.if_icmp .eq 12, 3) := by decide +kernel
theorem dX4_takeIfNotNeeded_36 : decode cX4_takeIfNotNeeded 36 = .ok (.aload_n 0, 1) := by decide +kernel
theorem dX4_takeIfNotNeeded_37 : decode cX4_takeIfNotNeeded 37 = .ok (.getfield 12, 3) := by decide +kernel
theorem dX4_takeIfNotNeeded_40 : decode cX4_takeIfNotNeeded 40 = .ok (.iload_n 1, 1) := by decide +kernel
theorem dX4_takeIfNotNeeded_41 : decode cX4_takeIfNotNeeded 41 = .ok (.iload_n 2, 1) := by decide +kernel
theorem dX4_takeIfNotNeeded_42 : decode cX4_takeIfNotNeeded 42 = .ok (.invokevirtual 75, 3) := by decide +kernel
theorem dX4_takeIfNotNeeded_45 : decode cX4_takeIfNotNeeded 45 = .ok (.return_, 1) := by decide +kernel
set_option maxRecDepth 20000 in
theorem ggX4_findCellOfOneNumber_X0_cellCount : GoodIn wsX4_findCellOfOneNumber wsX0_cellCount := goodIn_r _ [5, 6, 7, 8, 9, 10, 11, 12, 13, 73, 74, 75, 76, 77] (by decide +kernel) (by decide +kernel)
set_option maxRecDepth 20000 in
theorem gX4_findCellOfOneNumber_X0_cellCount_n60 : GoodIn wsX4_findCellOfOneNumber (wsX0_cellCount) := ggX4_findCellOfOneNumber_X0_cellCount
set_option maxRecDepth 20000 in
theorem ggX4_findCellOfOneNumber_X4_onlyNumberFor : GoodIn wsX4_findCellOfOneNumber wsX4_onlyNumberFor := goodIn_r _ [18, 1, 19, 3, 20, 21, 22, 23, 24, 25, 26, 27, 28, 29, 30, 31, 32, 33, 34, 35, 36, 37, 38, 39, 40, 41, 42, 43, 44, 45, 46, 47, 48, 49, 50, 51, 52, 53, 54, 55, 56, 57, 58, 59, 6, 7, 8, 9, 10, 11, 12, 13, 60, 61, 62, 63, 64, 65, 66, 67, 68, 69, 70, 71, 72, 73, 74, 75, 76, 77] (by decide +kernel) (by decide +kernel)
set_option maxRecDepth 20000 in
theorem gX4_findCellOfOneNumber_X4_onlyNumberFor : GoodIn wsX4_findCellOfOneNumber (wsV RX4 175 RX4 yX4_onlyNumberFor wsX4_onlyNumberFor) := goodIn_app (goodIn_of _ (by decide +kernel)) ggX4_findCellOfOneNumber_X4_onlyNumberFor
theorem dX4_findCellOfOneNumber_0 : decode cX4_findCellOfOneNumber 0 = .ok (.iconst 0, 1) := by decide +kernel
theorem dX4_findCellOfOneNumber_1 : decode cX4_findCellOfOneNumber 1 = .ok (.istore_n 1, 1) := by decide +kernel
theorem dX4_findCellOfOneNumber_2 : decode cX4_findCellOfOneNumber 2 = .ok (.iload_n 1, 1) := by decide +kernel
theorem dX4_findCellOfOneNumber_3 : decode cX4_findCellOfOneNumber 3 = .ok (.aload_n 0, 1) := by decide +kernel
theorem dX4_findCellOfOneNumber_4 : decode cX4_findCellOfOneNumber 4 = .ok (.getfield 18, 3) := by decide +kernel
theorem dX4_findCellOfOneNumber_7 : decode cX4_findCellOfOneNumber 7 = .ok (.invokevirtual 60, 3) := by decide +kernel
theorem dX4_findCellOfOneNumber_10 : decode cX4_findCellOfOneNumber 10 = .ok (.if_icmp .ge 26, 3) := by decide +kernel
theorem dX4_findCellOfOneNumber_13 : decode cX4_findCellOfOneNumber 13 = .ok (.aload_n 0, 1) := by decide +kernel
theorem dX4_findCellOfOneNumber_14 : decode cX4_findCellOfOneNumber 14 = .ok (.iload_n 1, 1) := by decide +kernel
theorem dX4_findCellOfOneNumber_15 : decode cX4_findCellOfOneNumber 15 = .ok (.invokevirtual 175, 3) := by decide +kernel
theorem dX4_findCellOfOneNumber_18 : decode cX4_findCellOfOneNumber 18 = .ok (.istore_n 2, 1) := by decide +kernel
theorem dX4_findCellOfOneNumber_19 : decode cX4_findCellOfOneNumber 19 = .ok (.iload_n 2, 1) := by decide +kernel
theorem dX4_findCellOfOneNumber_20 : decode cX4_findCellOfOneNumber 20 = .ok (.ifCond .eq 10, 3) := by decide +kernel
theorem dX4_findCellOfOneNumber_23 : decode cX4_findCellOfOneNumber 23 = .ok (.bipush 10, 2) := by decide +kernel
theorem dX4_findCellOfOneNumber_25 : decode cX4_findCellOfOneNumber 25 = .ok (.iload_n 1, 1) := by decide +kernel
theorem dX4_findCellOfOneNumber_26 : decode cX4_findCellOfOneNumber 26 = .ok (.imul, 1) := by decide +kernel
theorem dX4_findCellOfOneNumber_27 : decode cX4_findCellOfOneNumber 27 = .ok (.iload_n 2, 1) := by decide +kernel
theorem dX4_findCellOfOneNumber_28 : decode cX4_findCellOfOneNumber 28 = .ok (.iadd, 1) := by decide +kernel
theorem dX4_findCellOfOneNumber_29 : decode cX4_findCellOfOneNumber 29 = .ok (.ireturn, 1) := by decide +kernel
theorem dX4_findCellOfOneNumber_30 : decode cX4_findCellOfOneNumber 30 = .ok (.iinc 1 1, 3) := by decide +kernel
theorem dX4_findCellOfOneNumber_33 : decode cX4_findCellOfOneNumber 33 = .ok (.goto (-31), 3) := by decide +kernel
theorem dX4_findCellOfOneNumber_36 : decode cX4_findCellOfOneNumber 36 = .ok (.iconst (-1), 1) := by decide +kernel
theorem dX4_findCellOfOneNumber_37 : decode cX4_findCellOfOneNumber 37 = .ok (.ireturn, 1) := by decide +kernel
set_option maxRecDepth 20000 in
theorem ggX4_onlyNumberFor_X0_canTake : GoodIn wsX4_onlyNumberFor wsX0_canTake := goodIn_r _ [5, 6, 7, 8, 3, 9, 10, 11, 12, 13, 14, 15, 16, 17, 18, 19, 20, 21, 22, 23, 24, 25, 26, 27, 28, 29, 30, 31, 32, 33, 34, 35, 36, 37, 38, 39, 40, 41, 42, 43, 44, 45, 46, 47, 48, 49, 50, 51, 52, 53, 54, 55, 56, 57, 58, 65, 66, 67, 68, 69] (by decide +kernel) (by decide +kernel)
set_option maxRecDepth 20000 in
theorem gX4_onlyNumberFor_X0_canTake_n114 : GoodIn wsX4_onlyNumberFor (wsX0_canTake) := ggX4_onlyNumberFor_X0_canTake
theorem dX4_onlyNumberFor_0 : decode cX4_onlyNumberFor 0 = .ok (.iconst 0, 1) := by decide +kernel
theorem dX4_onlyNumberFor_1 : decode cX4_onlyNumberFor 1 = .ok (.istore_n 2, 1) := by decide +kernel
theorem dX4_onlyNumberFor_2 : decode cX4_onlyNumberFor 2 = .ok (.iconst 1, 1) := by decide +kernel
theorem dX4_onlyNumberFor_3 : decode cX4_onlyNumberFor 3 = .ok (.istore_n 3, 1) := by decide +kernel
theorem dX4_onlyNumberFor_4 : decode cX4_onlyNumberFor 4 = .ok (.iload_n 3, 1) := by decide +kernel
theorem dX4_onlyNumberFor_5 : decode cX4_onlyNumberFor 5 = .ok (.bipush 9, 2) := by decide +kernel
theorem dX4_onlyNumberFor_7 : decode cX4_onlyNumberFor 7 = .ok (.if_icmp .gt 29, 3) := by decide +kernel
theorem dX4_onlyNumberFor_10 : decode cX4_onlyNumberFor 10 = .ok (.aload_n 0, 1) := by decide +kernel
theorem dX4_onlyNumberFor_11 : decode cX4_onlyNumberFor 11 = .ok (.getfield 18, 3) := by decide +kernel
theorem dX4_onlyNumberFor_14 : decode cX4_onlyNumberFor 14 = .ok (.iload_n 1, 1) := by decide +kernel
theorem dX4_onlyNumberFor_15 : decode cX4_onlyNumberFor 15 = .ok (.iload_n 3, 1) := by decide +kernel
theorem dX4_onlyNumberFor_16 : decode cX4_onlyNumberFor 16 = .ok (.invokevirtual 114, 3) := by decide +kernel
theorem dX4_onlyNumberFor_19 : decode cX4_onlyNumberFor 19 = .ok (.ifCond .eq 11, 3) := by decide +kernel
theorem dX4_onlyNumberFor_22 : decode cX4_onlyNumberFor 22 = .ok (.iload_n 2, 1) := by decide +kernel
theorem dX4_onlyNumberFor_23 : decode cX4_onlyNumberFor 23 = .ok (.ifCond .eq 5, 3) := by decide +kernel
theorem dX4_onlyNumberFor_26 : decode cX4_onlyNumberFor 26 = .ok (.iconst 0, 1) := by decide +kernel
theorem dX4_onlyNumberFor_27 : decode cX4_onlyNumberFor 27 = .ok (.ireturn, 1) := by decide +kernel
theorem dX4_onlyNumberFor_28 : decode cX4_onlyNumberFor 28 = .ok (.iload_n 3, 1) := by decide +kernel
theorem dX4_onlyNumberFor_29 : decode cX4_onlyNumberFor 29 = .ok (.istore_n 2, 1) := by decide +kernel
theorem dX4_onlyNumberFor_30 : decode cX4_onlyNumberFor 30 = .ok (.iinc 3 1, 3) := by decide +kernel
theorem dX4_onlyNumberFor_33 : decode cX4_onlyNumberFor 33 = .ok (.goto (-29), 3) := by decide +kernel
theorem dX4_onlyNumberFor_36 : decode cX4_onlyNumberFor 36 = .ok (.iload_n 2, 1) := by decide +kernel
theorem dX4_onlyNumberFor_37 : decode cX4_onlyNumberFor 37 = .ok (.ireturn, 1) := by decide +kernel
set_option maxRecDepth 20000 in
theorem ggX4_findCellOfAllShapes_X0_cellCount : GoodIn wsX4_findCellOfAllShapes wsX0_cellCount := goodIn_r _ [5, 6, 7, 8, 9, 10, 11, 12, 13, 95, 96, 97, 98, 99] (by decide +kernel) (by decide +kernel)
set_option maxRecDepth 20000 in
theorem gX4_findCellOfAllShapes_X0_cellCount_n60 : GoodIn wsX4_findCellOfAllShapes (wsX0_cellCount) := ggX4_findCellOfAllShapes_X0_cellCount
set_option maxRecDepth 20000 in
theorem ggX4_findCellOfAllShapes_X0_emptyCells : GoodIn wsX4_findCellOfAllShapes wsX0_emptyCells := goodIn_r _ [16, 17, 18, 19, 3, 20, 21, 95, 96, 97, 98, 99] (by decide +kernel) (by decide +kernel)
set_option maxRecDepth 20000 in
theorem gX4_findCellOfAllShapes_X0_emptyCells_n106 : GoodIn wsX4_findCellOfAllShapes (wsX0_emptyCells) := ggX4_findCellOfAllShapes_X0_emptyCells
set_option maxRecDepth 20000 in
theorem ggX4_findCellOfAllShapes_X0_has : GoodIn wsX4_findCellOfAllShapes wsX0_has := goodIn_r _ [23, 24, 25, 3, 26] (by decide +kernel) (by decide +kernel)
set_option maxRecDepth 20000 in
theorem gX4_findCellOfAllShapes_X0_has_n145 : GoodIn wsX4_findCellOfAllShapes (wsX0_has) := ggX4_findCellOfAllShapes_X0_has
set_option maxRecDepth 20000 in
theorem ggX4_findCellOfAllShapes_X0_fieldOf : GoodIn wsX4_findCellOfAllShapes wsX0_fieldOf := goodIn_r _ [29, 30, 31, 32, 3, 33, 21, 34, 22, 23, 24, 25, 26, 17, 18, 19, 20, 35, 36, 37, 38, 39, 40, 41, 42, 43, 44, 45, 6, 95, 96, 97, 98, 99] (by decide +kernel) (by decide +kernel)
set_option maxRecDepth 20000 in
theorem gX4_findCellOfAllShapes_X0_fieldOf_n123 : GoodIn wsX4_findCellOfAllShapes (wsX0_fieldOf) := ggX4_findCellOfAllShapes_X0_fieldOf
set_option maxRecDepth 20000 in
theorem ggX4_findCellOfAllShapes_X4_lowestCellOfAllShapes : GoodIn wsX4_findCellOfAllShapes wsX4_lowestCellOfAllShapes := goodIn_r _ [50, 1, 51, 31, 3, 32, 33, 21, 34, 22, 23, 24, 25, 26, 52, 53, 54, 55, 56, 57, 58, 59, 60, 61, 62, 27, 28, 29, 30, 17, 18, 19, 20, 35, 36, 37, 38, 39, 40, 41, 42, 43, 44, 45, 6, 63, 64, 65, 66, 14, 15, 16, 67, 68, 69, 7, 8, 9, 10, 11, 12, 13, 70, 71, 72, 73, 74, 75, 76, 77, 78, 79, 80, 81, 82, 83, 84, 85, 86, 87, 88, 89, 90, 91, 92, 93, 94, 100, 101, 102, 95, 96, 97, 98, 99] (by decide +kernel) (by decide +kernel)
set_option maxRecDepth 20000 in
theorem gX4_findCellOfAllShapes_X4_lowestCellOfAllShapes : GoodIn wsX4_findCellOfAllShapes (wsV RX4 178 RX4 yX4_lowestCellOfAllShapes wsX4_lowestCellOfAllShapes) := goodIn_app (goodIn_of _ (by decide +kernel)) ggX4_findCellOfAllShapes_X4_lowestCellOfAllShapes
set_option maxRecDepth 20000 in
theorem ggX4_findCellOfAllShapes_X0_numberIn : GoodIn wsX4_findCellOfAllShapes wsX0_numberIn := goodIn_r _ [33, 21, 34, 22, 3, 23, 24, 25, 26, 95, 96, 97, 98, 99] (by decide +kernel) (by decide +kernel)
set_option maxRecDepth 20000 in
theorem gX4_findCellOfAllShapes_X0_numberIn_n71 : GoodIn wsX4_findCellOfAllShapes (wsX0_numberIn) := ggX4_findCellOfAllShapes_X0_numberIn
theorem dX4_findCellOfAllShapes_0 : decode cX4_findCellOfAllShapes 0 = .ok (.aload_n 0, 1) := by decide +kernel
theorem dX4_findCellOfAllShapes_1 : decode cX4_findCellOfAllShapes 1 = .ok (.getfield 18, 3) := by decide +kernel
theorem dX4_findCellOfAllShapes_4 : decode cX4_findCellOfAllShapes 4 = .ok (.invokevirtual 60, 3) := by decide +kernel
theorem dX4_findCellOfAllShapes_7 : decode cX4_findCellOfAllShapes 7 = .ok (.istore_n 1, 1) := by decide +kernel
theorem dX4_findCellOfAllShapes_8 : decode cX4_findCellOfAllShapes 8 = .ok (.iconst 0, 1) := by decide +kernel
theorem dX4_findCellOfAllShapes_9 : decode cX4_findCellOfAllShapes 9 = .ok (.istore_n 2, 1) := by decide +kernel
theorem dX4_findCellOfAllShapes_10 : decode cX4_findCellOfAllShapes 10 = .ok (.aload_n 0, 1) := by decide +kernel
theorem dX4_findCellOfAllShapes_11 : decode cX4_findCellOfAllShapes 11 = .ok (.getfield 18, 3) := by decide +kernel
theorem dX4_findCellOfAllShapes_14 : decode cX4_findCellOfAllShapes 14 = .ok (.invokevirtual 106, 3) := by decide +kernel
theorem dX4_findCellOfAllShapes_17 : decode cX4_findCellOfAllShapes 17 = .ok (.istore_n 3, 1) := by decide +kernel
theorem dX4_findCellOfAllShapes_18 : decode cX4_findCellOfAllShapes 18 = .ok (.iconst 0, 1) := by decide +kernel
theorem dX4_findCellOfAllShapes_19 : decode cX4_findCellOfAllShapes 19 = .ok (.istore 4, 2) := by decide +kernel
theorem dX4_findCellOfAllShapes_21 : decode cX4_findCellOfAllShapes 21 = .ok (.iload 4, 2) := by decide +kernel
theorem dX4_findCellOfAllShapes_23 : decode cX4_findCellOfAllShapes 23 = .ok (.aload_n 0, 1) := by decide +kernel
theorem dX4_findCellOfAllShapes_24 : decode cX4_findCellOfAllShapes 24 = .ok (.getfield 18, 3) := by decide +kernel
theorem dX4_findCellOfAllShapes_27 : decode cX4_findCellOfAllShapes 27 = .ok (.invokevirtual 60, 3) := by decide +kernel
theorem dX4_findCellOfAllShapes_30 : decode cX4_findCellOfAllShapes 30 = .ok (.if_icmp .ge 58, 3) := by decide +kernel
theorem dX4_findCellOfAllShapes_33 : decode cX4_findCellOfAllShapes 33 = .ok (.iload_n 3, 1) := by decide +kernel
theorem dX4_findCellOfAllShapes_34 : decode cX4_findCellOfAllShapes 34 = .ok (.iload 4, 2) := by decide +kernel
theorem dX4_findCellOfAllShapes_36 : decode cX4_findCellOfAllShapes 36 = .ok (.invokestatic 145, 3) := by decide +kernel
theorem dX4_findCellOfAllShapes_39 : decode cX4_findCellOfAllShapes 39 = .ok (.ifCond .ne 43, 3) := by decide +kernel
theorem dX4_findCellOfAllShapes_42 : decode cX4_findCellOfAllShapes 42 = .ok (.iload_n 3, 1) := by decide +kernel
theorem dX4_findCellOfAllShapes_43 : decode cX4_findCellOfAllShapes 43 = .ok (.aload_n 0, 1) := by decide +kernel
theorem dX4_findCellOfAllShapes_44 : decode cX4_findCellOfAllShapes 44 = .ok (.getfield 18, 3) := by decide +kernel
theorem dX4_findCellOfAllShapes_47 : decode cX4_findCellOfAllShapes 47 = .ok (.iload 4, 2) := by decide +kernel
theorem dX4_findCellOfAllShapes_49 : decode cX4_findCellOfAllShapes 49 = .ok (.invokevirtual 123, 3) := by decide +kernel
theorem dX4_findCellOfAllShapes_52 : decode cX4_findCellOfAllShapes 52 = .ok (.ior, 1) := by decide +kernel
theorem dX4_findCellOfAllShapes_53 : decode cX4_findCellOfAllShapes 53 = .ok (.istore_n 3, 1) := by decide +kernel
theorem dX4_findCellOfAllShapes_54 : decode cX4_findCellOfAllShapes 54 = .ok (.aload_n 0, 1) := by decide +kernel
theorem dX4_findCellOfAllShapes_55 : decode cX4_findCellOfAllShapes 55 = .ok (.iload 4, 2) := by decide +kernel
theorem dX4_findCellOfAllShapes_57 : decode cX4_findCellOfAllShapes 57 = .ok (.iload_n 1, 1) := by decide +kernel
theorem dX4_findCellOfAllShapes_58 : decode cX4_findCellOfAllShapes 58 = .ok (.invokevirtual 178, 3) := by decide +kernel
theorem dX4_findCellOfAllShapes_61 : decode cX4_findCellOfAllShapes 61 = .ok (.istore 5, 2) := by decide +kernel
theorem dX4_findCellOfAllShapes_63 : decode cX4_findCellOfAllShapes 63 = .ok (.iload 5, 2) := by decide +kernel
theorem dX4_findCellOfAllShapes_65 : decode cX4_findCellOfAllShapes 65 = .ok (.iload_n 1, 1) := by decide +kernel
theorem dX4_findCellOfAllShapes_66 : decode cX4_findCellOfAllShapes 66 = .ok (.if_icmp .ge 16, 3) := by decide +kernel
theorem dX4_findCellOfAllShapes_69 : decode cX4_findCellOfAllShapes 69 = .ok (.iload 5, 2) := by decide +kernel
theorem dX4_findCellOfAllShapes_71 : decode cX4_findCellOfAllShapes 71 = .ok (.istore_n 1, 1) := by decide +kernel
theorem dX4_findCellOfAllShapes_72 : decode cX4_findCellOfAllShapes 72 = .ok (.aload_n 0, 1) := by decide +kernel
theorem dX4_findCellOfAllShapes_73 : decode cX4_findCellOfAllShapes 73 = .ok (.getfield 18, 3) := by decide +kernel
theorem dX4_findCellOfAllShapes_76 : decode cX4_findCellOfAllShapes 76 = .ok (.iload 4, 2) := by decide +kernel
theorem dX4_findCellOfAllShapes_78 : decode cX4_findCellOfAllShapes 78 = .ok (.invokevirtual 71, 3) := by decide +kernel
theorem dX4_findCellOfAllShapes_81 : decode cX4_findCellOfAllShapes 81 = .ok (.istore_n 2, 1) := by decide +kernel
theorem dX4_findCellOfAllShapes_82 : decode cX4_findCellOfAllShapes 82 = .ok (.iinc 4 1, 3) := by decide +kernel
theorem dX4_findCellOfAllShapes_85 : decode cX4_findCellOfAllShapes 85 = .ok (.goto (-64), 3) := by decide +kernel
theorem dX4_findCellOfAllShapes_88 : decode cX4_findCellOfAllShapes 88 = .ok (.iload_n 2, 1) := by decide +kernel
theorem dX4_findCellOfAllShapes_89 : decode cX4_findCellOfAllShapes 89 = .ok (.ifCond .ne 7, 3) := by decide +kernel
theorem dX4_findCellOfAllShapes_92 : decode cX4_findCellOfAllShapes 92 = .ok (.iconst (-1), 1) := by decide +kernel
theorem dX4_findCellOfAllShapes_93 : decode cX4_findCellOfAllShapes 93 = .ok (.goto 9, 3) := by decide +kernel
theorem dX4_findCellOfAllShapes_96 : decode cX4_findCellOfAllShapes 96 = .ok (.bipush 10, 2) := by decide +kernel
theorem dX4_findCellOfAllShapes_98 : decode cX4_findCellOfAllShapes 98 = .ok (.iload_n 1, 1) := by decide +kernel
theorem dX4_findCellOfAllShapes_99 : decode cX4_findCellOfAllShapes 99 = .ok (.imul, 1) := by decide +kernel
theorem dX4_findCellOfAllShapes_100 : decode cX4_findCellOfAllShapes 100 = .ok (.iload_n 2, 1) := by decide +kernel
theorem dX4_findCellOfAllShapes_101 : decode cX4_findCellOfAllShapes 101 = .ok (.iadd, 1) := by decide +kernel
theorem dX4_findCellOfAllShapes_102 : decode cX4_findCellOfAllShapes 102 = .ok (.ireturn, 1) := by decide +kernel
set_option maxRecDepth 20000 in
theorem ggX4_lowestCellOfAllShapes_X0_numberIn : GoodIn wsX4_lowestCellOfAllShapes wsX0_numberIn := goodIn_r _ [6, 7, 8, 9, 4, 10, 11, 12, 13, 90, 91, 92, 93, 94] (by decide +kernel) (by decide +kernel)
set_option maxRecDepth 20000 in
theorem gX4_lowestCellOfAllShapes_X0_numberIn_n71 : GoodIn wsX4_lowestCellOfAllShapes (wsX0_numberIn) := ggX4_lowestCellOfAllShapes_X0_numberIn
set_option maxRecDepth 20000 in
theorem ggX4_lowestCellOfAllShapes_X2_list : GoodIn wsX4_lowestCellOfAllShapes wsX2_list := goodIn_r _ [17, 18, 19, 20, 15, 21, 22, 23, 24, 3, 4, 5, 6, 7, 8, 9, 10, 11, 12, 13, 25, 26, 27, 28, 29, 30, 31, 32, 33, 34, 35, 36, 37, 38, 39, 40, 41, 42, 43, 44, 45, 46, 47, 48, 49, 50, 51, 52, 53, 54, 55, 56, 57, 58, 59, 60, 61, 62, 63, 64, 65, 66, 67, 68, 87, 88, 89, 90, 91, 92, 93, 94] (by decide +kernel) (by decide +kernel)
set_option maxRecDepth 20000 in
theorem gX4_lowestCellOfAllShapes_X2_list_n148 : GoodIn wsX4_lowestCellOfAllShapes (wsX2_list) := ggX4_lowestCellOfAllShapes_X2_list
set_option maxRecDepth 20000 in
theorem ggX4_lowestCellOfAllShapes_X0_has : GoodIn wsX4_lowestCellOfAllShapes wsX0_has := goodIn_r _ [10, 11, 12, 4, 13] (by decide +kernel) (by decide +kernel)
set_option maxRecDepth 20000 in
theorem gX4_lowestCellOfAllShapes_X0_has_n145 : GoodIn wsX4_lowestCellOfAllShapes (wsX0_has) := ggX4_lowestCellOfAllShapes_X0_has
set_option maxRecDepth 20000 in
theorem ggX4_lowestCellOfAllShapes_X0_canTake : GoodIn wsX4_lowestCellOfAllShapes wsX0_canTake := goodIn_r _ [71, 48, 49, 50, 4, 51, 29, 30, 31, 32, 7, 8, 9, 10, 11, 12, 13, 72, 73, 74, 75, 76, 25, 26, 27, 28, 3, 5, 6, 33, 34, 35, 36, 37, 38, 39, 40, 41, 42, 43, 44, 55, 56, 57, 58, 59, 60, 61, 77, 78, 79, 80, 62, 63, 64, 90, 91, 92, 93, 94] (by decide +kernel) (by decide +kernel)
set_option maxRecDepth 20000 in
theorem gX4_lowestCellOfAllShapes_X0_canTake_n114 : GoodIn wsX4_lowestCellOfAllShapes (wsX0_canTake) := ggX4_lowestCellOfAllShapes_X0_canTake
theorem dX4_lowestCellOfAllShapes_0 : decode cX4_lowestCellOfAllShapes 0 = .ok (.aload_n 0, 1) := by decide +kernel
theorem dX4_lowestCellOfAllShapes_1 : decode cX4_lowestCellOfAllShapes 1 = .ok (.getfield 18, 3) := by decide +kernel
theorem dX4_lowestCellOfAllShapes_4 : decode cX4_lowestCellOfAllShapes 4 = .ok (.iload_n 1, 1) := by decide +kernel
theorem dX4_lowestCellOfAllShapes_5 : decode cX4_lowestCellOfAllShapes 5 = .ok (.invokevirtual 71, 3) := by decide +kernel
theorem dX4_lowestCellOfAllShapes_8 : decode cX4_lowestCellOfAllShapes 8 = .ok (.istore_n 3, 1) := by decide +kernel
theorem dX4_lowestCellOfAllShapes_9 : decode cX4_lowestCellOfAllShapes 9 = .ok (.aload_n 0, 1) := by decide +kernel
theorem dX4_lowestCellOfAllShapes_10 : decode cX4_lowestCellOfAllShapes 10 = .ok (.getfield 32, 3) := by decide +kernel
theorem dX4_lowestCellOfAllShapes_13 : decode cX4_lowestCellOfAllShapes 13 = .ok (.aload_n 0, 1) := by decide +kernel
theorem dX4_lowestCellOfAllShapes_14 : decode cX4_lowestCellOfAllShapes 14 = .ok (.getfield 18, 3) := by decide +kernel
theorem dX4_lowestCellOfAllShapes_17 : decode cX4_lowestCellOfAllShapes 17 = .ok (.iload_n 1, 1) := by decide +kernel
theorem dX4_lowestCellOfAllShapes_18 : decode cX4_lowestCellOfAllShapes 18 = .ok (.invokevirtual 148, 3) := by decide +kernel
theorem dX4_lowestCellOfAllShapes_21 : decode cX4_lowestCellOfAllShapes 21 = .ok (.iconst 0, 1) := by decide +kernel
theorem dX4_lowestCellOfAllShapes_22 : decode cX4_lowestCellOfAllShapes 22 = .ok (.istore 4, 2) := by decide +kernel
theorem dX4_lowestCellOfAllShapes_24 : decode cX4_lowestCellOfAllShapes 24 = .ok (.iload 4, 2) := by decide +kernel
theorem dX4_lowestCellOfAllShapes_26 : decode cX4_lowestCellOfAllShapes 26 = .ok (.iload_n 2, 1) := by decide +kernel
theorem dX4_lowestCellOfAllShapes_27 : decode cX4_lowestCellOfAllShapes 27 = .ok (.if_icmp .ge 40, 3) := by decide +kernel
theorem dX4_lowestCellOfAllShapes_30 : decode cX4_lowestCellOfAllShapes 30 = .ok (.aload_n 0, 1) := by decide +kernel
theorem dX4_lowestCellOfAllShapes_31 : decode cX4_lowestCellOfAllShapes 31 = .ok (.getfield 32, 3) := by decide +kernel
theorem dX4_lowestCellOfAllShapes_34 : decode cX4_lowestCellOfAllShapes 34 = .ok (.getfield 182, 3) := by decide +kernel
theorem dX4_lowestCellOfAllShapes_37 : decode cX4_lowestCellOfAllShapes 37 = .ok (.iload 4, 2) := by decide +kernel
theorem dX4_lowestCellOfAllShapes_39 : decode cX4_lowestCellOfAllShapes 39 = .ok (.invokestatic 145, 3) := by decide +kernel
theorem dX4_lowestCellOfAllShapes_42 : decode cX4_lowestCellOfAllShapes 42 = .ok (.ifCond .eq 19, 3) := by decide +kernel
theorem dX4_lowestCellOfAllShapes_45 : decode cX4_lowestCellOfAllShapes 45 = .ok (.aload_n 0, 1) := by decide +kernel
theorem dX4_lowestCellOfAllShapes_46 : decode cX4_lowestCellOfAllShapes 46 = .ok (.getfield 18, 3) := by decide +kernel
theorem dX4_lowestCellOfAllShapes_49 : decode cX4_lowestCellOfAllShapes 49 = .ok (.iload 4, 2) := by decide +kernel
theorem dX4_lowestCellOfAllShapes_51 : decode cX4_lowestCellOfAllShapes 51 = .ok (.iload_n 3, 1) := by decide +kernel
theorem dX4_lowestCellOfAllShapes_52 : decode cX4_lowestCellOfAllShapes 52 = .ok (.invokevirtual 114, 3) := by decide +kernel
theorem dX4_lowestCellOfAllShapes_55 : decode cX4_lowestCellOfAllShapes 55 = .ok (.ifCond .eq 6, 3) := by decide +kernel
theorem dX4_lowestCellOfAllShapes_58 : decode cX4_lowestCellOfAllShapes 58 = .ok (.iload 4, 2) := by decide +kernel
theorem dX4_lowestCellOfAllShapes_60 : decode cX4_lowestCellOfAllShapes 60 = .ok (.ireturn, 1) := by decide +kernel
theorem dX4_lowestCellOfAllShapes_61 : decode cX4_lowestCellOfAllShapes 61 = .ok (.iinc 4 1, 3) := by decide +kernel
theorem dX4_lowestCellOfAllShapes_64 : decode cX4_lowestCellOfAllShapes 64 = .ok (.goto (-40), 3) := by decide +kernel
theorem dX4_lowestCellOfAllShapes_67 : decode cX4_lowestCellOfAllShapes 67 = .ok (.iload_n 2, 1) := by decide +kernel
theorem dX4_lowestCellOfAllShapes_68 : decode cX4_lowestCellOfAllShapes 68 = .ok (.ireturn, 1) := by decide +kernel
set_option maxRecDepth 20000 in
theorem ggX4_findHiddenOne_X0_hiddenCells : GoodIn wsX4_findHiddenOne wsX0_hiddenCells := goodIn_r _ [5, 6, 7, 8, 3, 9, 10, 11, 12, 13, 14, 15, 16, 17, 18, 19, 20, 21, 22, 23, 24, 25, 26, 27, 28, 29, 30, 31, 32, 33, 34, 35, 36, 74, 75, 76, 77, 78] (by decide +kernel) (by decide +kernel)
set_option maxRecDepth 20000 in
theorem gX4_findHiddenOne_X0_hiddenCells_n142 : GoodIn wsX4_findHiddenOne (wsX0_hiddenCells) := ggX4_findHiddenOne_X0_hiddenCells
set_option maxRecDepth 20000 in
theorem ggX4_findHiddenOne_X0_cellCount : GoodIn wsX4_findHiddenOne wsX0_cellCount := goodIn_r _ [39, 25, 30, 31, 32, 33, 34, 35, 36, 74, 75, 76, 77, 78] (by decide +kernel) (by decide +kernel)
set_option maxRecDepth 20000 in
theorem gX4_findHiddenOne_X0_cellCount_n60 : GoodIn wsX4_findHiddenOne (wsX0_cellCount) := ggX4_findHiddenOne_X0_cellCount
set_option maxRecDepth 20000 in
theorem ggX4_findHiddenOne_X0_has : GoodIn wsX4_findHiddenOne wsX0_has := goodIn_r _ [41, 42, 43, 3, 44] (by decide +kernel) (by decide +kernel)
set_option maxRecDepth 20000 in
theorem gX4_findHiddenOne_X0_has_n145 : GoodIn wsX4_findHiddenOne (wsX0_has) := ggX4_findHiddenOne_X0_has
set_option maxRecDepth 20000 in
theorem ggX4_findHiddenOne_X0_hasEmptyNeighbour : GoodIn wsX4_findHiddenOne wsX0_hasEmptyNeighbour := goodIn_r _ [47, 42, 43, 3, 44, 18, 19, 20, 21, 22, 23, 24, 25, 26, 27, 28, 29, 6, 7, 8, 9, 10, 74, 75, 76, 77, 78] (by decide +kernel) (by decide +kernel)
set_option maxRecDepth 20000 in
theorem gX4_findHiddenOne_X0_hasEmptyNeighbour_n185 : GoodIn wsX4_findHiddenOne (wsX0_hasEmptyNeighbour) := ggX4_findHiddenOne_X0_hasEmptyNeighbour
set_option maxRecDepth 20000 in
theorem ggX4_findHiddenOne_X0_canTake : GoodIn wsX4_findHiddenOne wsX0_canTake := goodIn_r _ [50, 26, 27, 28, 3, 29, 6, 7, 8, 9, 10, 51, 40, 41, 42, 43, 44, 52, 53, 54, 55, 56, 57, 58, 59, 60, 61, 62, 63, 14, 15, 16, 17, 18, 19, 20, 21, 22, 23, 24, 25, 30, 31, 32, 33, 34, 35, 36, 64, 65, 66, 67, 11, 12, 13, 74, 75, 76, 77, 78] (by decide +kernel) (by decide +kernel)
set_option maxRecDepth 20000 in
theorem gX4_findHiddenOne_X0_canTake_n114 : GoodIn wsX4_findHiddenOne (wsX0_canTake) := ggX4_findHiddenOne_X0_canTake
theorem dX4_findHiddenOne_0 : decode cX4_findHiddenOne 0 = .ok (.aload_n 0, 1) := by decide +kernel
theorem dX4_findHiddenOne_1 : decode cX4_findHiddenOne 1 = .ok (.getfield 18, 3) := by decide +kernel
theorem dX4_findHiddenOne_4 : decode cX4_findHiddenOne 4 = .ok (.invokevirtual 142, 3) := by decide +kernel
theorem dX4_findHiddenOne_7 : decode cX4_findHiddenOne 7 = .ok (.istore_n 1, 1) := by decide +kernel
theorem dX4_findHiddenOne_8 : decode cX4_findHiddenOne 8 = .ok (.iconst 0, 1) := by decide +kernel
theorem dX4_findHiddenOne_9 : decode cX4_findHiddenOne 9 = .ok (.istore_n 2, 1) := by decide +kernel
theorem dX4_findHiddenOne_10 : decode cX4_findHiddenOne 10 = .ok (.iload_n 2, 1) := by decide +kernel
theorem dX4_findHiddenOne_11 : decode cX4_findHiddenOne 11 = .ok (.aload_n 0, 1) := by decide +kernel
theorem dX4_findHiddenOne_12 : decode cX4_findHiddenOne 12 = .ok (.getfield 18, 3) := by decide +kernel
theorem dX4_findHiddenOne_15 : decode cX4_findHiddenOne 15 = .ok (.invokevirtual 60, 3) := by decide +kernel
theorem dX4_findHiddenOne_18 : decode cX4_findHiddenOne 18 = .ok (.if_icmp .ge 47, 3) := by decide +kernel
theorem dX4_findHiddenOne_21 : decode cX4_findHiddenOne 21 = .ok (.iload_n 1, 1) := by decide +kernel
theorem dX4_findHiddenOne_22 : decode cX4_findHiddenOne 22 = .ok (.iload_n 2, 1) := by decide +kernel
theorem dX4_findHiddenOne_23 : decode cX4_findHiddenOne 23 = .ok (.invokestatic 145, 3) := by decide +kernel
theorem dX4_findHiddenOne_26 : decode cX4_findHiddenOne 26 = .ok (.ifCond .eq 33, 3) := by decide +kernel
theorem dX4_findHiddenOne_29 : decode cX4_findHiddenOne 29 = .ok (.aload_n 0, 1) := by decide +kernel
theorem dX4_findHiddenOne_30 : decode cX4_findHiddenOne 30 = .ok (.getfield 18, 3) := by decide +kernel
theorem dX4_findHiddenOne_33 : decode cX4_findHiddenOne 33 = .ok (.iload_n 2, 1) := by decide +kernel
theorem dX4_findHiddenOne_34 : decode cX4_findHiddenOne 34 = .ok (.invokevirtual 185, 3) := by decide +kernel
theorem dX4_findHiddenOne_37 : decode cX4_findHiddenOne 37 = .ok (.ifCond .ne 22, 3) := by decide +kernel
theorem dX4_findHiddenOne_40 : decode cX4_findHiddenOne 40 = .ok (.aload_n 0, 1) := by decide +kernel
theorem dX4_findHiddenOne_41 : decode cX4_findHiddenOne 41 = .ok (.getfield 18, 3) := by decide +kernel
theorem dX4_findHiddenOne_44 : decode cX4_findHiddenOne 44 = .ok (.iload_n 2, 1) := by decide +kernel
theorem dX4_findHiddenOne_45 : decode cX4_findHiddenOne 45 = .ok (.iconst 1, 1) := by decide +kernel
theorem dX4_findHiddenOne_46 : decode cX4_findHiddenOne 46 = .ok (.invokevirtual 114, 3) := by decide +kernel
theorem dX4_findHiddenOne_49 : decode cX4_findHiddenOne 49 = .ok (.ifCond .eq 10, 3) := by decide +kernel
theorem dX4_findHiddenOne_52 : decode cX4_findHiddenOne 52 = .ok (.bipush 10, 2) := by decide +kernel
theorem dX4_findHiddenOne_54 : decode cX4_findHiddenOne 54 = .ok (.iload_n 2, 1) := by decide +kernel
theorem dX4_findHiddenOne_55 : decode cX4_findHiddenOne 55 = .ok (.imul, 1) := by decide +kernel
theorem dX4_findHiddenOne_56 : decode cX4_findHiddenOne 56 = .ok (.iconst 1, 1) := by decide +kernel
theorem dX4_findHiddenOne_57 : decode cX4_findHiddenOne 57 = .ok (.iadd, 1) := by decide +kernel
theorem dX4_findHiddenOne_58 : decode cX4_findHiddenOne 58 = .ok (.ireturn, 1) := by decide +kernel
theorem dX4_findHiddenOne_59 : decode cX4_findHiddenOne 59 = .ok (.iinc 2 1, 3) := by decide +kernel
theorem dX4_findHiddenOne_62 : decode cX4_findHiddenOne 62 = .ok (.goto (-52), 3) := by decide +kernel
theorem dX4_findHiddenOne_65 : decode cX4_findHiddenOne 65 = .ok (.iconst (-1), 1) := by decide +kernel
theorem dX4_findHiddenOne_66 : decode cX4_findHiddenOne 66 = .ok (.ireturn, 1) := by decide +kernel
theorem dX5_init_0 : decode cX5_init 0 = .ok (.aload_n 0, 1) := by decide +kernel
theorem dX5_init_1 : decode cX5_init 1 = .ok (.invokespecial 1, 3) := by decide +kernel
theorem dX5_init_4 : decode cX5_init 4 = .ok (.aload_n 0, 1) := by decide +kernel
theorem dX5_init_5 : decode cX5_init 5 = .ok (.iconst 3, 1) := by decide +kernel
theorem dX5_init_6 : decode cX5_init 6 = .ok (.putfield 7, 3) := by decide +kernel
theorem dX5_init_9 : decode cX5_init 9 = .ok (.aload_n 0, 1) := by decide +kernel
theorem dX5_init_10 : decode cX5_init 10 = .ok (.iconst 3, 1) := by decide +kernel
theorem dX5_init_11 : decode cX5_init 11 = .ok (.putfield 13, 3) := by decide +kernel
theorem dX5_init_14 : decode cX5_init 14 = .ok (.aload_n 0, 1) := by decide +kernel
theorem dX5_init_15 : decode cX5_init 15 = .ok (.bipush 12, 2) := by decide +kernel
theorem dX5_init_17 : decode cX5_init 17 = .ok (.newarray .int, 2) := by decide +kernel
theorem dX5_init_19 : decode cX5_init 19 = .ok (.putfield 16, 3) := by decide +kernel
theorem dX5_init_22 : decode cX5_init 22 = .ok (.aload_n 0, 1) := by decide +kernel
theorem dX5_init_23 : decode cX5_init 23 = .ok (.bipush 12, 2) := by decide +kernel
theorem dX5_init_25 : decode cX5_init 25 = .ok (.newarray .int, 2) := by decide +kernel
theorem dX5_init_27 : decode cX5_init 27 = .ok (.putfield 20, 3) := by decide +kernel
theorem dX5_init_30 : decode cX5_init 30 = .ok (.aload_n 0, 1) := by decide +kernel
theorem dX5_init_31 : decode cX5_init 31 = .ok (.bipush 10, 2) := by decide +kernel
theorem dX5_init_33 : decode cX5_init 33 = .ok (.newarray .int, 2) := by decide +kernel
theorem dX5_init_35 : decode cX5_init 35 = .ok (.putfield 23, 3) := by decide +kernel
theorem dX5_init_38 : decode cX5_init 38 = .ok (.aload_n 0, 1) := by decide +kernel
theorem dX5_init_39 : decode cX5_init 39 = .ok (.bipush 12, 2) := by decide +kernel
theorem dX5_init_41 : decode cX5_init 41 = .ok (.newarray .int, 2) := by decide +kernel
theorem dX5_init_43 : decode cX5_init 43 = .ok (.putfield 26, 3) := by decide +kernel
theorem dX5_init_46 : decode cX5_init 46 = .ok (.aload_n 0, 1) := by decide +kernel
theorem dX5_init_47 : decode cX5_init 47 = .ok (.bipush 12, 2) := by decide +kernel
theorem dX5_init_49 : decode cX5_init 49 = .ok (.newarray .int, 2) := by decide +kernel
theorem dX5_init_51 : decode cX5_init 51 = .ok (.putfield 29, 3) := by decide +kernel
theorem dX5_init_54 : decode cX5_init 54 = .ok (.aload_n 0, 1) := by decide +kernel
theorem dX5_init_55 : decode cX5_init 55 = .ok (.bipush 12, 2) := by decide +kernel
theorem dX5_init_57 : decode cX5_init 57 = .ok (.newarray .int, 2) := by decide +kernel
theorem dX5_init_59 : decode cX5_init 59 = .ok (.putfield 32, 3) := by decide +kernel
theorem dX5_init_62 : decode cX5_init 62 = .ok (.aload_n 0, 1) := by decide +kernel
theorem dX5_init_63 : decode cX5_init 63 = .ok (.bipush 12, 2) := by decide +kernel
theorem dX5_init_65 : decode cX5_init 65 = .ok (.newarray .int, 2) := by decide +kernel
theorem dX5_init_67 : decode cX5_init 67 = .ok (.putfield 35, 3) := by decide +kernel
theorem dX5_init_70 : decode cX5_init 70 = .ok (.return_, 1) := by decide +kernel
theorem dX5_thrown_0 : decode cX5_thrown 0 = .ok (.aload_n 0, 1) := by decide +kernel
theorem dX5_thrown_1 : decode cX5_thrown 1 = .ok (.getfield 38, 3) := by decide +kernel
theorem dX5_thrown_4 : decode cX5_thrown 4 = .ok (.ireturn, 1) := by decide +kernel
theorem dX5_can_0 : decode cX5_can 0 = .ok (.aload_n 0, 1) := by decide +kernel
theorem dX5_can_1 : decode cX5_can 1 = .ok (.iload_n 1, 1) := by decide +kernel
theorem dX5_can_2 : decode cX5_can 2 = .ok (.putfield 38, 3) := by decide +kernel
theorem dX5_can_5 : decode cX5_can 5 = .ok (.iload_n 1, 1) := by decide +kernel
theorem dX5_can_6 : decode cX5_can 6 = .ok (.ifCond .ne 7, 3) := by decide +kernel
theorem dX5_can_9 : decode cX5_can 9 = .ok (.iconst 1, 1) := by decide +kernel
theorem dX5_can_10 : decode cX5_can 10 = .ok (.goto 4, 3) := by decide +kernel
theorem dX5_can_13 : decode cX5_can 13 = .ok (.iconst 0, 1) := by decide +kernel
theorem dX5_can_14 : decode cX5_can 14 = .ok (.ireturn, 1) := by decide +kernel
theorem dX5_isIn_0 : decode cX5_isIn 0 = .ok (.iload_n 0, 1) := by decide +kernel
theorem dX5_isIn_1 : decode cX5_isIn 1 = .ok (.iload_n 1, 1) := by decide +kernel
theorem dX5_isIn_2 : decode cX5_isIn 2 = .ok (.if_icmp .lt 12, 3) := by decide +kernel
theorem dX5_isIn_5 : decode cX5_isIn 5 = .ok (.iload_n 0, 1) := by decide +kernel
theorem dX5_isIn_6 : decode cX5_isIn 6 = .ok (.iload_n 2, 1) := by decide +kernel
theorem dX5_isIn_7 : decode cX5_isIn 7 = .ok (.if_icmp .gt 7, 3) := by decide +kernel
theorem dX5_isIn_10 : decode cX5_isIn 10 = .ok (.iconst 1, 1) := by decide +kernel
theorem dX5_isIn_11 : decode cX5_isIn 11 = .ok (.goto 4, 3) := by decide +kernel
theorem dX5_isIn_14 : decode cX5_isIn 14 = .ok (.iconst 0, 1) := by decide +kernel
theorem dX5_isIn_15 : decode cX5_isIn 15 = .ok (.ireturn, 1) := by decide +kernel
theorem dX5_cells_0 : decode cX5_cells 0 = .ok (.aload_n 0, 1) := by decide +kernel
theorem dX5_cells_1 : decode cX5_cells 1 = .ok (.getfield 7, 3) := by decide +kernel
theorem dX5_cells_4 : decode cX5_cells 4 = .ok (.aload_n 0, 1) := by decide +kernel
theorem dX5_cells_5 : decode cX5_cells 5 = .ok (.getfield 13, 3) := by decide +kernel
theorem dX5_cells_8 : decode cX5_cells 8 = .ok (.imul, 1) := by decide +kernel
theorem dX5_cells_9 : decode cX5_cells 9 = .ok (.ireturn, 1) := by decide +kernel
set_option maxRecDepth 20000 in
theorem ggX5_isCell_X5_cells : GoodIn wsX5_isCell wsX5_cells := goodIn_r _ [5, 6, 7, 11, 12, 13, 14, 15, 16, 17, 18, 19, 20, 21, 22, 23] (by decide +kernel) (by decide +kernel)
set_option maxRecDepth 20000 in
theorem gX5_isCell_X5_cells : GoodIn wsX5_isCell (wsV RX5 41 RX5 yX5_cells wsX5_cells) := goodIn_app (goodIn_of _ (by decide +kernel)) ggX5_isCell_X5_cells
set_option maxRecDepth 20000 in
theorem ggX5_isCell_X5_isIn : GoodIn wsX5_isCell wsX5_isIn := goodIn_r _ [10] (by decide +kernel) (by decide +kernel)
set_option maxRecDepth 20000 in
theorem gX5_isCell_X5_isIn : GoodIn wsX5_isCell (va_wsS RX5 45 yX5_isIn wsX5_isIn) := goodIn_app (goodIn_of _ (by decide +kernel)) ggX5_isCell_X5_isIn
theorem dX5_isCell_0 : decode cX5_isCell 0 = .ok (.iload_n 1, 1) := by decide +kernel
theorem dX5_isCell_1 : decode cX5_isCell 1 = .ok (.iconst 0, 1) := by decide +kernel
theorem dX5_isCell_2 : decode cX5_isCell 2 = .ok (.aload_n 0, 1) := by decide +kernel
theorem dX5_isCell_3 : decode cX5_isCell 3 = .ok (.invokevirtual 41, 3) := by decide +kernel
theorem dX5_isCell_6 : decode cX5_isCell 6 = .ok (.iconst 1, 1) := by decide +kernel
theorem dX5_isCell_7 : decode cX5_isCell 7 = .ok (.isub, 1) := by decide +kernel
theorem dX5_isCell_8 : decode cX5_isCell 8 = .ok (.invokestatic 45, 3) := by decide +kernel
theorem dX5_isCell_11 : decode cX5_isCell 11 = .ok (.ireturn, 1) := by decide +kernel
theorem dX5_has_0 : decode cX5_has 0 = .ok (.iload_n 0, 1) := by decide +kernel
theorem dX5_has_1 : decode cX5_has 1 = .ok (.iload_n 1, 1) := by decide +kernel
theorem dX5_has_2 : decode cX5_has 2 = .ok (.ishr, 1) := by decide +kernel
theorem dX5_has_3 : decode cX5_has 3 = .ok (.iconst 1, 1) := by decide +kernel
theorem dX5_has_4 : decode cX5_has 4 = .ok (.iand, 1) := by decide +kernel
theorem dX5_has_5 : decode cX5_has 5 = .ok (.iconst 1, 1) := by decide +kernel
theorem dX5_has_6 : decode cX5_has 6 = .ok (.if_icmp .ne 7, 3) := by decide +kernel
theorem dX5_has_9 : decode cX5_has 9 = .ok (.iconst 1, 1) := by decide +kernel
theorem dX5_has_10 : decode cX5_has 10 = .ok (.goto 4, 3) := by decide +kernel
theorem dX5_has_13 : decode cX5_has 13 = .ok (.iconst 0, 1) := by decide +kernel
theorem dX5_has_14 : decode cX5_has 14 = .ok (.ireturn, 1) := by decide +kernel
theorem dX5_count_0 : decode cX5_count 0 = .ok (.iconst 0, 1) := by decide +kernel
theorem dX5_count_1 : decode cX5_count 1 = .ok (.istore_n 1, 1) := by decide +kernel
theorem dX5_count_2 : decode cX5_count 2 = .ok (.iconst 0, 1) := by decide +kernel
theorem dX5_count_3 : decode cX5_count 3 = .ok (.istore_n 2, 1) := by decide +kernel
theorem dX5_count_4 : decode cX5_count 4 = .ok (.iload_n 2, 1) := by decide +kernel
theorem dX5_count_5 : decode cX5_count 5 = .ok (.bipush 12, 2) := by decide +kernel
theorem dX5_count_7 : decode cX5_count 7 = .ok (.if_icmp .ge 17, 3) := by decide +kernel
theorem dX5_count_10 : decode cX5_count 10 = .ok (.iload_n 1, 1) := by decide +kernel
theorem dX5_count_11 : decode cX5_count 11 = .ok (.iload_n 0, 1) := by decide +kernel
theorem dX5_count_12 : decode cX5_count 12 = .ok (.iload_n 2, 1) := by decide +kernel
theorem dX5_count_13 : decode cX5_count 13 = .ok (.ishr, 1) := by decide +kernel
theorem dX5_count_14 : decode cX5_count 14 = .ok (.iconst 1, 1) := by decide +kernel
theorem dX5_count_15 : decode cX5_count 15 = .ok (.iand, 1) := by decide +kernel
theorem dX5_count_16 : decode cX5_count 16 = .ok (.iadd, 1) := by decide +kernel
theorem dX5_count_17 : decode cX5_count 17 = .ok (.istore_n 1, 1) := by decide +kernel
theorem dX5_count_18 : decode cX5_count 18 = .ok (.iinc 2 1, 3) := by decide +kernel
theorem dX5_count_21 : decode cX5_count 21 = .ok (.goto (-17), 3) := by decide +kernel
theorem dX5_count_24 : decode cX5_count 24 = .ok (.iload_n 1, 1) := by decide +kernel
theorem dX5_count_25 : decode cX5_count 25 = .ok (.ireturn, 1) := by decide +kernel
set_option maxRecDepth 20000 in
theorem ggX5_beside_X5_cells : GoodIn wsX5_beside wsX5_cells := goodIn_r _ [7, 1, 2, 8, 9, 10, 11, 12, 13, 14, 15, 16, 17, 18, 19, 20] (by decide +kernel) (by decide +kernel)
set_option maxRecDepth 20000 in
theorem gX5_beside_X5_cells : GoodIn wsX5_beside (wsV RX5 41 RX5 yX5_cells wsX5_cells) := goodIn_app (goodIn_of _ (by decide +kernel)) ggX5_beside_X5_cells
theorem dX5_beside_0 : decode cX5_beside 0 = .ok (.iconst 0, 1) := by decide +kernel
theorem dX5_beside_1 : decode cX5_beside 1 = .ok (.istore_n 2, 1) := by decide +kernel
theorem dX5_beside_2 : decode cX5_beside 2 = .ok (.iconst 0, 1) := by decide +kernel
theorem dX5_beside_3 : decode cX5_beside 3 = .ok (.istore_n 3, 1) := by decide +kernel
theorem dX5_beside_4 : decode cX5_beside 4 = .ok (.iload_n 3, 1) := by decide +kernel
theorem dX5_beside_5 : decode cX5_beside 5 = .ok (.aload_n 0, 1) := by decide +kernel
theorem dX5_beside_6 : decode cX5_beside 6 = .ok (.getfield 7, 3) := by decide +kernel
theorem dX5_beside_9 : decode cX5_beside 9 = .ok (.if_icmp .ge 20, 3) := by decide +kernel
theorem dX5_beside_12 : decode cX5_beside 12 = .ok (.iload_n 2, 1) := by decide +kernel
theorem dX5_beside_13 : decode cX5_beside 13 = .ok (.iconst 1, 1) := by decide +kernel
theorem dX5_beside_14 : decode cX5_beside 14 = .ok (.iload_n 3, 1) := by decide +kernel
theorem dX5_beside_15 : decode cX5_beside 15 = .ok (.aload_n 0, 1) := by decide +kernel
theorem dX5_beside_16 : decode cX5_beside 16 = .ok (.getfield 13, 3) := by decide +kernel
theorem dX5_beside_19 : decode cX5_beside 19 = .ok (.imul, 1) := by decide +kernel
theorem dX5_beside_20 : decode cX5_beside 20 = .ok (.ishl, 1) := by decide +kernel
theorem dX5_beside_21 : decode cX5_beside 21 = .ok (.ior, 1) := by decide +kernel
theorem dX5_beside_22 : decode cX5_beside 22 = .ok (.istore_n 2, 1) := by decide +kernel
theorem dX5_beside_23 : decode cX5_beside 23 = .ok (.iinc 3 1, 3) := by decide +kernel
theorem dX5_beside_26 : decode cX5_beside 26 = .ok (.goto (-22), 3) := by decide +kernel
theorem dX5_beside_29 : decode cX5_beside 29 = .ok (.iload_n 2, 1) := by decide +kernel
theorem dX5_beside_30 : decode cX5_beside 30 = .ok (.aload_n 0, 1) := by decide +kernel
theorem dX5_beside_31 : decode cX5_beside 31 = .ok (.getfield 13, 3) := by decide +kernel
theorem dX5_beside_34 : decode cX5_beside 34 = .ok (.iconst 1, 1) := by decide +kernel
theorem dX5_beside_35 : decode cX5_beside 35 = .ok (.isub, 1) := by decide +kernel
theorem dX5_beside_36 : decode cX5_beside 36 = .ok (.ishl, 1) := by decide +kernel
theorem dX5_beside_37 : decode cX5_beside 37 = .ok (.istore_n 3, 1) := by decide +kernel
theorem dX5_beside_38 : decode cX5_beside 38 = .ok (.iload_n 1, 1) := by decide +kernel
theorem dX5_beside_39 : decode cX5_beside 39 = .ok (.aload_n 0, 1) := by decide +kernel
theorem dX5_beside_40 : decode cX5_beside 40 = .ok (.getfield 13, 3) := by decide +kernel
theorem dX5_beside_43 : decode cX5_beside 43 = .ok (.ishl, 1) := by decide +kernel
theorem dX5_beside_44 : decode cX5_beside 44 = .ok (.iload_n 1, 1) := by decide +kernel
theorem dX5_beside_45 : decode cX5_beside 45 = .ok (.aload_n 0, 1) := by decide +kernel
theorem dX5_beside_46 : decode cX5_beside 46 = .ok (.getfield 13, 3) := by decide +kernel
theorem dX5_beside_49 : decode cX5_beside 49 = .ok (.ishr, 1) := by decide +kernel
theorem dX5_beside_50 : decode cX5_beside 50 = .ok (.ior, 1) := by decide +kernel
theorem dX5_beside_51 : decode cX5_beside 51 = .ok (.iload_n 1, 1) := by decide +kernel
theorem dX5_beside_52 : decode cX5_beside 52 = .ok (.iload_n 3, 1) := by decide +kernel
theorem dX5_beside_53 : decode cX5_beside 53 = .ok (.iconst (-1), 1) := by decide +kernel
theorem dX5_beside_54 : decode cX5_beside 54 = .ok (.ixor, 1) := by decide +kernel
theorem dX5_beside_55 : decode cX5_beside 55 = .ok (.iand, 1) := by decide +kernel
theorem dX5_beside_56 : decode cX5_beside 56 = .ok (.iconst 1, 1) := by decide +kernel
theorem dX5_beside_57 : decode cX5_beside 57 = .ok (.ishl, 1) := by decide +kernel
theorem dX5_beside_58 : decode cX5_beside 58 = .ok (.ior, 1) := by decide +kernel
theorem dX5_beside_59 : decode cX5_beside 59 = .ok (.iload_n 1, 1) := by decide +kernel
theorem dX5_beside_60 : decode cX5_beside 60 = .ok (.iload_n 2, 1) := by decide +kernel
theorem dX5_beside_61 : decode cX5_beside 61 = .ok (.iconst (-1), 1) := by decide +kernel
theorem dX5_beside_62 : decode cX5_beside 62 = .ok (.ixor, 1) := by decide +kernel
theorem dX5_beside_63 : decode cX5_beside 63 = .ok (.iand, 1) := by decide +kernel
theorem dX5_beside_64 : decode cX5_beside 64 = .ok (.iconst 1, 1) := by decide +kernel
theorem dX5_beside_65 : decode cX5_beside 65 = .ok (.ishr, 1) := by decide +kernel
theorem dX5_beside_66 : decode cX5_beside 66 = .ok (.ior, 1) := by decide +kernel
theorem dX5_beside_67 : decode cX5_beside 67 = .ok (.istore 4, 2) := by decide +kernel
theorem dX5_beside_69 : decode cX5_beside 69 = .ok (.iload 4, 2) := by decide +kernel
theorem dX5_beside_71 : decode cX5_beside 71 = .ok (.iconst 1, 1) := by decide +kernel
theorem dX5_beside_72 : decode cX5_beside 72 = .ok (.aload_n 0, 1) := by decide +kernel
theorem dX5_beside_73 : decode cX5_beside 73 = .ok (.invokevirtual 41, 3) := by decide +kernel
theorem dX5_beside_76 : decode cX5_beside 76 = .ok (.ishl, 1) := by decide +kernel
theorem dX5_beside_77 : decode cX5_beside 77 = .ok (.iconst 1, 1) := by decide +kernel
theorem dX5_beside_78 : decode cX5_beside 78 = .ok (.isub, 1) := by decide +kernel
theorem dX5_beside_79 : decode cX5_beside 79 = .ok (.iand, 1) := by decide +kernel
theorem dX5_beside_80 : decode cX5_beside 80 = .ok (.ireturn, 1) := by decide +kernel
set_option maxRecDepth 20000 in
theorem ggX5_grown_X5_beside : GoodIn wsX5_grown wsX5_beside := goodIn_r _ [5, 6, 7, 8, 9, 10, 4, 11, 12, 13, 14, 15, 16, 17, 18, 19, 20, 21, 22, 23, 24] (by decide +kernel) (by decide +kernel)
set_option maxRecDepth 20000 in
theorem gX5_grown_X5_beside : GoodIn wsX5_grown (wsV RX5 49 RX5 yX5_beside wsX5_beside) := goodIn_app (goodIn_of _ (by decide +kernel)) ggX5_grown_X5_beside
theorem dX5_grown_0 : decode cX5_grown 0 = .ok (.iload_n 1, 1) := by decide +kernel
theorem dX5_grown_1 : decode cX5_grown 1 = .ok (.istore_n 3, 1) := by decide +kernel
theorem dX5_grown_2 : decode cX5_grown 2 = .ok (.iconst 0, 1) := by decide +kernel
theorem dX5_grown_3 : decode cX5_grown 3 = .ok (.istore 4, 2) := by decide +kernel
theorem dX5_grown_5 : decode cX5_grown 5 = .ok (.iload_n 3, 1) := by decide +kernel
theorem dX5_grown_6 : decode cX5_grown 6 = .ok (.iload 4, 2) := by decide +kernel
theorem dX5_grown_8 : decode cX5_grown 8 = .ok (.if_icmp .eq 19, 3) := by decide +kernel
theorem dX5_grown_11 : decode cX5_grown 11 = .ok (.iload_n 3, 1) := by decide +kernel
theorem dX5_grown_12 : decode cX5_grown 12 = .ok (.istore 4, 2) := by decide +kernel
theorem dX5_grown_14 : decode cX5_grown 14 = .ok (.iload_n 3, 1) := by decide +kernel
theorem dX5_grown_15 : decode cX5_grown 15 = .ok (.aload_n 0, 1) := by decide +kernel
theorem dX5_grown_16 : decode cX5_grown 16 = .ok (.iload_n 3, 1) := by decide +kernel
theorem dX5_grown_17 : decode cX5_grown 17 = .ok (.invokevirtual 49, 3) := by decide +kernel
theorem dX5_grown_20 : decode cX5_grown 20 = .ok (.iload_n 2, 1) := by decide +kernel
theorem dX5_grown_21 : decode cX5_grown 21 = .ok (.iand, 1) := by decide +kernel
theorem dX5_grown_22 : decode cX5_grown 22 = .ok (.ior, 1) := by decide +kernel
theorem dX5_grown_23 : decode cX5_grown 23 = .ok (.istore_n 3, 1) := by decide +kernel
theorem dX5_grown_24 : decode cX5_grown 24 = .ok (.goto (-19), 3) := by decide +kernel
theorem dX5_grown_27 : decode cX5_grown 27 = .ok (.iload_n 3, 1) := by decide +kernel
theorem dX5_grown_28 : decode cX5_grown 28 = .ok (.ireturn, 1) := by decide +kernel
set_option maxRecDepth 20000 in
theorem ggX5_looks_X5_cells : GoodIn wsX5_looks wsX5_cells := goodIn_r _ [7, 8, 9, 10, 11, 12, 13, 14, 15, 16, 17, 18, 19, 20, 21, 22] (by decide +kernel) (by decide +kernel)
set_option maxRecDepth 20000 in
theorem gX5_looks_X5_cells : GoodIn wsX5_looks (wsV RX5 41 RX5 yX5_cells wsX5_cells) := goodIn_app (goodIn_of _ (by decide +kernel)) ggX5_looks_X5_cells
theorem dX5_looks_0 : decode cX5_looks 0 = .ok (.iconst 0, 1) := by decide +kernel
theorem dX5_looks_1 : decode cX5_looks 1 = .ok (.istore_n 1, 1) := by decide +kernel
theorem dX5_looks_2 : decode cX5_looks 2 = .ok (.iload_n 1, 1) := by decide +kernel
theorem dX5_looks_3 : decode cX5_looks 3 = .ok (.bipush 9, 2) := by decide +kernel
theorem dX5_looks_5 : decode cX5_looks 5 = .ok (.if_icmp .gt 16, 3) := by decide +kernel
theorem dX5_looks_8 : decode cX5_looks 8 = .ok (.aload_n 0, 1) := by decide +kernel
theorem dX5_looks_9 : decode cX5_looks 9 = .ok (.getfield 23, 3) := by decide +kernel
theorem dX5_looks_12 : decode cX5_looks 12 = .ok (.iload_n 1, 1) := by decide +kernel
theorem dX5_looks_13 : decode cX5_looks 13 = .ok (.iconst 0, 1) := by decide +kernel
theorem dX5_looks_14 : decode cX5_looks 14 = .ok (.iastore, 1) := by decide +kernel
theorem dX5_looks_15 : decode cX5_looks 15 = .ok (.iinc 1 1, 3) := by decide +kernel
theorem dX5_looks_18 : decode cX5_looks 18 = .ok (.goto (-16), 3) := by decide +kernel
theorem dX5_looks_21 : decode cX5_looks 21 = .ok (.iconst 0, 1) := by decide +kernel
theorem dX5_looks_22 : decode cX5_looks 22 = .ok (.istore_n 1, 1) := by decide +kernel
theorem dX5_looks_23 : decode cX5_looks 23 = .ok (.iload_n 1, 1) := by decide +kernel
theorem dX5_looks_24 : decode cX5_looks 24 = .ok (.aload_n 0, 1) := by decide +kernel
theorem dX5_looks_25 : decode cX5_looks 25 = .ok (.invokevirtual 41, 3) := by decide +kernel
theorem dX5_looks_28 : decode cX5_looks 28 = .ok (.if_icmp .ge 26, 3) := by decide +kernel
theorem dX5_looks_31 : decode cX5_looks 31 = .ok (.aload_n 0, 1) := by decide +kernel
theorem dX5_looks_32 : decode cX5_looks 32 = .ok (.getfield 23, 3) := by decide +kernel
theorem dX5_looks_35 : decode cX5_looks 35 = .ok (.aload_n 0, 1) := by decide +kernel
theorem dX5_looks_36 : decode cX5_looks 36 = .ok (.getfield 16, 3) := by decide +kernel
theorem dX5_looks_39 : decode cX5_looks 39 = .ok (.iload_n 1, 1) := by decide +kernel
theorem dX5_looks_40 : decode cX5_looks 40 = .ok (.iaload, 1) := by decide +kernel
theorem dX5_looks_41 : decode cX5_looks 41 = .ok (.dup2, 1) := by decide +kernel
theorem dX5_looks_42 : decode cX5_looks 42 = .ok (.iaload, 1) := by decide +kernel
theorem dX5_looks_43 : decode cX5_looks 43 = .ok (.iconst 1, 1) := by decide +kernel
theorem dX5_looks_44 : decode cX5_looks 44 = .ok (.iload_n 1, 1) := by decide +kernel
theorem dX5_looks_45 : decode cX5_looks 45 = .ok (.ishl, 1) := by decide +kernel
theorem dX5_looks_46 : decode cX5_looks 46 = .ok (.ior, 1) := by decide +kernel
theorem dX5_looks_47 : decode cX5_looks 47 = .ok (.iastore, 1) := by decide +kernel
theorem dX5_looks_48 : decode cX5_looks 48 = .ok (.iinc 1 1, 3) := by decide +kernel
theorem dX5_looks_51 : decode cX5_looks 51 = .ok (.goto (-28), 3) := by decide +kernel
theorem dX5_looks_54 : decode cX5_looks 54 = .ok (.return_, 1) := by decide +kernel
set_option maxRecDepth 20000 in
theorem ggX5_fieldOf_X5_grown : GoodIn wsX5_fieldOf wsX5_grown := goodIn_r _ [7, 8, 9, 10, 6, 11, 12, 13, 14, 15, 16, 17, 18, 19, 20, 21, 22, 23, 24, 25, 26, 27, 28, 29, 30] (by decide +kernel) (by decide +kernel)
set_option maxRecDepth 20000 in
theorem gX5_fieldOf_X5_grown : GoodIn wsX5_fieldOf (wsV RX5 53 RX5 yX5_grown wsX5_grown) := goodIn_app (goodIn_of _ (by decide +kernel)) ggX5_fieldOf_X5_grown
theorem dX5_fieldOf_0 : decode cX5_fieldOf 0 = .ok (.aload_n 0, 1) := by decide +kernel
theorem dX5_fieldOf_1 : decode cX5_fieldOf 1 = .ok (.iconst 1, 1) := by decide +kernel
theorem dX5_fieldOf_2 : decode cX5_fieldOf 2 = .ok (.iload_n 1, 1) := by decide +kernel
theorem dX5_fieldOf_3 : decode cX5_fieldOf 3 = .ok (.ishl, 1) := by decide +kernel
theorem dX5_fieldOf_4 : decode cX5_fieldOf 4 = .ok (.aload_n 0, 1) := by decide +kernel
theorem dX5_fieldOf_5 : decode cX5_fieldOf 5 = .ok (.getfield 23, 3) := by decide +kernel
theorem dX5_fieldOf_8 : decode cX5_fieldOf 8 = .ok (.aload_n 0, 1) := by decide +kernel
theorem dX5_fieldOf_9 : decode cX5_fieldOf 9 = .ok (.getfield 16, 3) := by decide +kernel
theorem dX5_fieldOf_12 : decode cX5_fieldOf 12 = .ok (.iload_n 1, 1) := by decide +kernel
theorem dX5_fieldOf_13 : decode cX5_fieldOf 13 = .ok (.iaload, 1) := by decide +kernel
theorem dX5_fieldOf_14 : decode cX5_fieldOf 14 = .ok (.iaload, 1) := by decide +kernel
theorem dX5_fieldOf_15 : decode cX5_fieldOf 15 = .ok (.invokevirtual 53, 3) := by decide +kernel
theorem dX5_fieldOf_18 : decode cX5_fieldOf 18 = .ok (.ireturn, 1) := by decide +kernel
set_option maxRecDepth 20000 in
theorem ggX5_roomOf_X5_grown : GoodIn wsX5_roomOf wsX5_grown := goodIn_r _ [7, 8, 9, 10, 6, 11, 12, 13, 14, 15, 16, 17, 21, 22, 23, 24, 25, 26, 27, 28, 29, 30, 31, 32, 33] (by decide +kernel) (by decide +kernel)
set_option maxRecDepth 20000 in
theorem gX5_roomOf_X5_grown : GoodIn wsX5_roomOf (wsV RX5 53 RX5 yX5_grown wsX5_grown) := goodIn_app (goodIn_of _ (by decide +kernel)) ggX5_roomOf_X5_grown
set_option maxRecDepth 20000 in
theorem ggX5_roomOf_X5_count : GoodIn wsX5_roomOf wsX5_count := goodIn_r _ [20] (by decide +kernel) (by decide +kernel)
set_option maxRecDepth 20000 in
theorem gX5_roomOf_X5_count : GoodIn wsX5_roomOf (va_wsS RX5 57 yX5_count wsX5_count) := goodIn_app (goodIn_of _ (by decide +kernel)) ggX5_roomOf_X5_count
theorem dX5_roomOf_0 : decode cX5_roomOf 0 = .ok (.aload_n 0, 1) := by decide +kernel
theorem dX5_roomOf_1 : decode cX5_roomOf 1 = .ok (.iconst 1, 1) := by decide +kernel
theorem dX5_roomOf_2 : decode cX5_roomOf 2 = .ok (.iload_n 1, 1) := by decide +kernel
theorem dX5_roomOf_3 : decode cX5_roomOf 3 = .ok (.ishl, 1) := by decide +kernel
theorem dX5_roomOf_4 : decode cX5_roomOf 4 = .ok (.aload_n 0, 1) := by decide +kernel
theorem dX5_roomOf_5 : decode cX5_roomOf 5 = .ok (.getfield 23, 3) := by decide +kernel
theorem dX5_roomOf_8 : decode cX5_roomOf 8 = .ok (.aload_n 0, 1) := by decide +kernel
theorem dX5_roomOf_9 : decode cX5_roomOf 9 = .ok (.getfield 16, 3) := by decide +kernel
theorem dX5_roomOf_12 : decode cX5_roomOf 12 = .ok (.iload_n 1, 1) := by decide +kernel
theorem dX5_roomOf_13 : decode cX5_roomOf 13 = .ok (.iaload, 1) := by decide +kernel
theorem dX5_roomOf_14 : decode cX5_roomOf 14 = .ok (.iaload, 1) := by decide +kernel
theorem dX5_roomOf_15 : decode cX5_roomOf 15 = .ok (.aload_n 0, 1) := by decide +kernel
theorem dX5_roomOf_16 : decode cX5_roomOf 16 = .ok (.getfield 23, 3) := by decide +kernel
theorem dX5_roomOf_19 : decode cX5_roomOf 19 = .ok (.iconst 0, 1) := by decide +kernel
theorem dX5_roomOf_20 : decode cX5_roomOf 20 = .ok (.iaload, 1) := by decide +kernel
theorem dX5_roomOf_21 : decode cX5_roomOf 21 = .ok (.ior, 1) := by decide +kernel
theorem dX5_roomOf_22 : decode cX5_roomOf 22 = .ok (.invokevirtual 53, 3) := by decide +kernel
theorem dX5_roomOf_25 : decode cX5_roomOf 25 = .ok (.invokestatic 57, 3) := by decide +kernel
theorem dX5_roomOf_28 : decode cX5_roomOf 28 = .ok (.ireturn, 1) := by decide +kernel
set_option maxRecDepth 20000 in
theorem ggX5_isSound_X5_looks : GoodIn wsX5_isSound wsX5_looks := goodIn_r _ [6, 7, 1, 8, 9, 10, 5, 11, 12, 13, 33, 34, 35, 36, 37, 38, 39, 40, 41, 42, 43, 44, 45] (by decide +kernel) (by decide +kernel)
set_option maxRecDepth 20000 in
theorem gX5_isSound_X5_looks : GoodIn wsX5_isSound (wsV RX5 60 RX5 yX5_looks wsX5_looks) := goodIn_app (goodIn_of _ (by decide +kernel)) ggX5_isSound_X5_looks
set_option maxRecDepth 20000 in
theorem ggX5_isSound_X5_cells : GoodIn wsX5_isSound wsX5_cells := goodIn_r _ [11, 12, 13, 33, 34, 35, 36, 37, 38, 39, 40, 41, 42, 43, 44, 45] (by decide +kernel) (by decide +kernel)
set_option maxRecDepth 20000 in
theorem gX5_isSound_X5_cells : GoodIn wsX5_isSound (wsV RX5 41 RX5 yX5_cells wsX5_cells) := goodIn_app (goodIn_of _ (by decide +kernel)) ggX5_isSound_X5_cells
set_option maxRecDepth 20000 in
theorem ggX5_isSound_X5_fieldOf : GoodIn wsX5_isSound wsX5_fieldOf := goodIn_r _ [17, 7, 1, 18, 19, 20, 5, 21, 22, 23, 24, 25, 12, 13, 8, 9, 10, 11, 33, 34, 35, 36, 37, 38, 39, 40, 41, 42, 43, 44, 45] (by decide +kernel) (by decide +kernel)
set_option maxRecDepth 20000 in
theorem gX5_isSound_X5_fieldOf : GoodIn wsX5_isSound (wsV RX5 63 RX5 yX5_fieldOf wsX5_fieldOf) := goodIn_app (goodIn_of _ (by decide +kernel)) ggX5_isSound_X5_fieldOf
set_option maxRecDepth 20000 in
theorem ggX5_isSound_X5_count : GoodIn wsX5_isSound wsX5_count := goodIn_r _ [28] (by decide +kernel) (by decide +kernel)
set_option maxRecDepth 20000 in
theorem gX5_isSound_X5_count : GoodIn wsX5_isSound (va_wsS RX5 57 yX5_count wsX5_count) := goodIn_app (goodIn_of _ (by decide +kernel)) ggX5_isSound_X5_count
set_option maxRecDepth 20000 in
theorem ggX5_isSound_X5_roomOf : GoodIn wsX5_isSound wsX5_roomOf := goodIn_r _ [32, 7, 1, 18, 19, 20, 5, 21, 22, 23, 24, 25, 12, 13, 8, 9, 10, 11, 26, 27, 28, 33, 34, 35, 36, 37, 38, 39, 40, 41, 42, 43, 44, 45] (by decide +kernel) (by decide +kernel)
set_option maxRecDepth 20000 in
theorem gX5_isSound_X5_roomOf : GoodIn wsX5_isSound (wsV RX5 66 RX5 yX5_roomOf wsX5_roomOf) := goodIn_app (goodIn_of _ (by decide +kernel)) ggX5_isSound_X5_roomOf
theorem dX5_isSound_0 : decode cX5_isSound 0 = .ok (.iconst 1, 1) := by decide +kernel
theorem dX5_isSound_1 : decode cX5_isSound 1 = .ok (.istore_n 1, 1) := by decide +kernel
theorem dX5_isSound_2 : decode cX5_isSound 2 = .ok (.aload_n 0, 1) := by decide +kernel
theorem dX5_isSound_3 : decode cX5_isSound 3 = .ok (.invokevirtual 60, 3) := by decide +kernel
theorem dX5_isSound_6 : decode cX5_isSound 6 = .ok (.iconst 0, 1) := by decide +kernel
theorem dX5_isSound_7 : decode cX5_isSound 7 = .ok (.istore_n 2, 1) := by decide +kernel
theorem dX5_isSound_8 : decode cX5_isSound 8 = .ok (.iload_n 2, 1) := by decide +kernel
theorem dX5_isSound_9 : decode cX5_isSound 9 = .ok (.aload_n 0, 1) := by decide +kernel
theorem dX5_isSound_10 : decode cX5_isSound 10 = .ok (.invokevirtual 41, 3) := by decide +kernel
theorem dX5_isSound_13 : decode cX5_isSound 13 = .ok (.if_icmp .ge 59, 3) := by decide +kernel
theorem dX5_isSound_16 : decode cX5_isSound 16 = .ok (.iload_n 1, 1) := by decide +kernel
theorem dX5_isSound_17 : decode cX5_isSound 17 = .ok (.ifCond .eq 55, 3) := by decide +kernel
theorem dX5_isSound_20 : decode cX5_isSound 20 = .ok (.aload_n 0, 1) := by decide +kernel
theorem dX5_isSound_21 : decode cX5_isSound 21 = .ok (.getfield 16, 3) := by decide +kernel
theorem dX5_isSound_24 : decode cX5_isSound 24 = .ok (.iload_n 2, 1) := by decide +kernel
theorem dX5_isSound_25 : decode cX5_isSound 25 = .ok (.iaload, 1) := by decide +kernel
theorem dX5_isSound_26 : decode cX5_isSound 26 = .ok (.ifCond .eq 34, 3) := by decide +kernel
theorem dX5_isSound_29 : decode cX5_isSound 29 = .ok (.aload_n 0, 1) := by decide +kernel
theorem dX5_isSound_30 : decode cX5_isSound 30 = .ok (.iload_n 2, 1) := by decide +kernel
theorem dX5_isSound_31 : decode cX5_isSound 31 = .ok (.invokevirtual 63, 3) := by decide +kernel
theorem dX5_isSound_34 : decode cX5_isSound 34 = .ok (.invokestatic 57, 3) := by decide +kernel
theorem dX5_isSound_37 : decode cX5_isSound 37 = .ok (.aload_n 0, 1) := by decide +kernel
theorem dX5_isSound_38 : decode cX5_isSound 38 = .ok (.getfield 16, 3) := by decide +kernel
theorem dX5_isSound_41 : decode cX5_isSound 41 = .ok (.iload_n 2, 1) := by decide +kernel
theorem dX5_isSound_42 : decode cX5_isSound 42 = .ok (.iaload, 1) := by decide +kernel
theorem dX5_isSound_43 : decode cX5_isSound 43 = .ok (.if_icmp .gt 21, 3) := by decide +kernel
theorem dX5_isSound_46 : decode cX5_isSound 46 = .ok (.aload_n 0, 1) := by decide +kernel
theorem dX5_isSound_47 : decode cX5_isSound 47 = .ok (.iload_n 2, 1) := by decide +kernel
theorem dX5_isSound_48 : decode cX5_isSound 48 = .ok (.invokevirtual 66, 3) := by decide +kernel
theorem dX5_isSound_51 : decode cX5_isSound 51 = .ok (.aload_n 0, 1) := by decide +kernel
theorem dX5_isSound_52 : decode cX5_isSound 52 = .ok (.getfield 16, 3) := by decide +kernel
theorem dX5_isSound_55 : decode cX5_isSound 55 = .ok (.iload_n 2, 1) := by decide +kernel
theorem dX5_isSound_56 : decode cX5_isSound 56 = .ok (.iaload, 1) := by decide +kernel
theorem dX5_isSound_57 : decode cX5_isSound 57 = .ok (.if_icmp .lt 7, 3) := by decide +kernel
theorem dX5_isSound_60 : decode cX5_isSound 60 = .ok (.iconst 1, 1) := by decide +kernel
theorem dX5_isSound_61 : decode cX5_isSound 61 = .ok (.goto 4, 3) := by decide +kernel
theorem dX5_isSound_64 : decode cX5_isSound 64 = .ok (.iconst 0, 1) := by decide +kernel
theorem dX5_isSound_65 : decode cX5_isSound 65 = .ok (.istore_n 1, 1) := by decide +kernel
theorem dX5_isSound_66 : decode cX5_isSound 66 = .ok (.iinc 2 1, 3) := by decide +kernel
theorem dX5_isSound_69 : decode cX5_isSound 69 = .ok (.goto (-61), 3) := by decide +kernel
theorem dX5_isSound_72 : decode cX5_isSound 72 = .ok (.iload_n 1, 1) := by decide +kernel
theorem dX5_isSound_73 : decode cX5_isSound 73 = .ok (.ireturn, 1) := by decide +kernel
set_option maxRecDepth 20000 in
theorem ggX5_fits_X5_isSound : GoodIn wsX5_fits wsX5_isSound := goodIn_r _ [6, 1, 7, 8, 9, 5, 10, 11, 12, 13, 14, 15, 16, 17, 18, 19, 20, 21, 22, 23, 24, 25, 26, 27, 28, 29, 30, 31, 32, 33, 34, 35, 36, 37, 38, 39, 40, 41, 42, 43, 44, 45, 46, 47, 48, 49] (by decide +kernel) (by decide +kernel)
set_option maxRecDepth 20000 in
theorem gX5_fits_X5_isSound : GoodIn wsX5_fits (wsV RX5 69 RX5 yX5_isSound wsX5_isSound) := goodIn_app (goodIn_of _ (by decide +kernel)) ggX5_fits_X5_isSound
set_option maxRecDepth 20000 in
theorem ggX5_fits_X5_looks : GoodIn wsX5_fits wsX5_looks := goodIn_r _ [10, 11, 1, 12, 13, 14, 5, 15, 16, 17, 37, 38, 39, 40, 41, 42, 43, 44, 45, 46, 47, 48, 49] (by decide +kernel) (by decide +kernel)
set_option maxRecDepth 20000 in
theorem gX5_fits_X5_looks : GoodIn wsX5_fits (wsV RX5 60 RX5 yX5_looks wsX5_looks) := goodIn_app (goodIn_of _ (by decide +kernel)) ggX5_fits_X5_looks
theorem dX5_fits_0 : decode cX5_fits 0 = .ok (.aload_n 0, 1) := by decide +kernel
theorem dX5_fits_1 : decode cX5_fits 1 = .ok (.getfield 16, 3) := by decide +kernel
theorem dX5_fits_4 : decode cX5_fits 4 = .ok (.iload_n 1, 1) := by decide +kernel
theorem dX5_fits_5 : decode cX5_fits 5 = .ok (.iaload, 1) := by decide +kernel
theorem dX5_fits_6 : decode cX5_fits 6 = .ok (.ifCond .eq 5, 3) := by decide +kernel
theorem dX5_fits_9 : decode cX5_fits 9 = .ok (.iconst 0, 1) := by decide +kernel
theorem dX5_fits_10 : decode cX5_fits 10 = .ok (.ireturn, 1) := by decide +kernel
theorem dX5_fits_11 : decode cX5_fits 11 = .ok (.aload_n 0, 1) := by decide +kernel
theorem dX5_fits_12 : decode cX5_fits 12 = .ok (.getfield 16, 3) := by decide +kernel
theorem dX5_fits_15 : decode cX5_fits 15 = .ok (.iload_n 1, 1) := by decide +kernel
theorem dX5_fits_16 : decode cX5_fits 16 = .ok (.iload_n 2, 1) := by decide +kernel
theorem dX5_fits_17 : decode cX5_fits 17 = .ok (.iastore, 1) := by decide +kernel
theorem dX5_fits_18 : decode cX5_fits 18 = .ok (.aload_n 0, 1) := by decide +kernel
theorem dX5_fits_19 : decode cX5_fits 19 = .ok (.invokevirtual 69, 3) := by decide +kernel
theorem dX5_fits_22 : decode cX5_fits 22 = .ok (.istore_n 3, 1) := by decide +kernel
theorem dX5_fits_23 : decode cX5_fits 23 = .ok (.aload_n 0, 1) := by decide +kernel
theorem dX5_fits_24 : decode cX5_fits 24 = .ok (.getfield 16, 3) := by decide +kernel
theorem dX5_fits_27 : decode cX5_fits 27 = .ok (.iload_n 1, 1) := by decide +kernel
theorem dX5_fits_28 : decode cX5_fits 28 = .ok (.iconst 0, 1) := by decide +kernel
theorem dX5_fits_29 : decode cX5_fits 29 = .ok (.iastore, 1) := by decide +kernel
theorem dX5_fits_30 : decode cX5_fits 30 = .ok (.aload_n 0, 1) := by decide +kernel
theorem dX5_fits_31 : decode cX5_fits 31 = .ok (.invokevirtual 60, 3) := by decide +kernel
theorem dX5_fits_34 : decode cX5_fits 34 = .ok (.iload_n 3, 1) := by decide +kernel
theorem dX5_fits_35 : decode cX5_fits 35 = .ok (.ireturn, 1) := by decide +kernel
theorem dX5_empties_0 : decode cX5_empties 0 = .ok (.iconst 0, 1) := by decide +kernel
theorem dX5_empties_1 : decode cX5_empties 1 = .ok (.istore_n 1, 1) := by decide +kernel
theorem dX5_empties_2 : decode cX5_empties 2 = .ok (.iload_n 1, 1) := by decide +kernel
theorem dX5_empties_3 : decode cX5_empties 3 = .ok (.aload_n 0, 1) := by decide +kernel
theorem dX5_empties_4 : decode cX5_empties 4 = .ok (.getfield 73, 3) := by decide +kernel
theorem dX5_empties_7 : decode cX5_empties 7 = .ok (.if_icmp .ge 21, 3) := by decide +kernel
theorem dX5_empties_10 : decode cX5_empties 10 = .ok (.aload_n 0, 1) := by decide +kernel
theorem dX5_empties_11 : decode cX5_empties 11 = .ok (.getfield 16, 3) := by decide +kernel
theorem dX5_empties_14 : decode cX5_empties 14 = .ok (.aload_n 0, 1) := by decide +kernel
theorem dX5_empties_15 : decode cX5_empties 15 = .ok (.getfield 20, 3) := by decide +kernel
theorem dX5_empties_18 : decode cX5_empties 18 = .ok (.iload_n 1, 1) := by decide +kernel
theorem dX5_empties_19 : decode cX5_empties 19 = .ok (.iaload, 1) := by decide +kernel
theorem dX5_empties_20 : decode cX5_empties 20 = .ok (.iconst 0, 1) := by decide +kernel
theorem dX5_empties_21 : decode cX5_empties 21 = .ok (.iastore, 1) := by decide +kernel
theorem dX5_empties_22 : decode cX5_empties 22 = .ok (.iinc 1 1, 3) := by decide +kernel
theorem dX5_empties_25 : decode cX5_empties 25 = .ok (.goto (-23), 3) := by decide +kernel
theorem dX5_empties_28 : decode cX5_empties 28 = .ok (.aload_n 0, 1) := by decide +kernel
theorem dX5_empties_29 : decode cX5_empties 29 = .ok (.iconst 0, 1) := by decide +kernel
theorem dX5_empties_30 : decode cX5_empties 30 = .ok (.putfield 73, 3) := by decide +kernel
theorem dX5_empties_33 : decode cX5_empties 33 = .ok (.return_, 1) := by decide +kernel
set_option maxRecDepth 20000 in
theorem ggX5_lay_X5_isIn : GoodIn wsX5_lay wsX5_isIn := goodIn_r _ [9] (by decide +kernel) (by decide +kernel)
set_option maxRecDepth 20000 in
theorem gX5_lay_X5_isIn : GoodIn wsX5_lay (va_wsS RX5 45 yX5_isIn wsX5_isIn) := goodIn_app (goodIn_of _ (by decide +kernel)) ggX5_lay_X5_isIn
set_option maxRecDepth 20000 in
theorem ggX5_lay_X5_can : GoodIn wsX5_lay wsX5_can := goodIn_r _ [13, 14, 19, 20, 21, 22, 23, 24, 25, 26, 27, 28, 29, 30, 31] (by decide +kernel) (by decide +kernel)
set_option maxRecDepth 20000 in
theorem gX5_lay_X5_can : GoodIn wsX5_lay (wsV RX5 76 RX5 yX5_can wsX5_can) := goodIn_app (goodIn_of _ (by decide +kernel)) ggX5_lay_X5_can
set_option maxRecDepth 20000 in
theorem ggX5_lay_X5_cells : GoodIn wsX5_lay wsX5_cells := goodIn_r _ [18, 1, 2, 19, 20, 21, 22, 23, 24, 25, 26, 27, 28, 29, 30, 31] (by decide +kernel) (by decide +kernel)
set_option maxRecDepth 20000 in
theorem gX5_lay_X5_cells : GoodIn wsX5_lay (wsV RX5 41 RX5 yX5_cells wsX5_cells) := goodIn_app (goodIn_of _ (by decide +kernel)) ggX5_lay_X5_cells
theorem dX5_lay_0 : decode cX5_lay 0 = .ok (.aload_n 0, 1) := by decide +kernel
theorem dX5_lay_1 : decode cX5_lay 1 = .ok (.iload_n 1, 1) := by decide +kernel
theorem dX5_lay_2 : decode cX5_lay 2 = .ok (.iconst 2, 1) := by decide +kernel
theorem dX5_lay_3 : decode cX5_lay 3 = .ok (.iconst 4, 1) := by decide +kernel
theorem dX5_lay_4 : decode cX5_lay 4 = .ok (.invokestatic 45, 3) := by decide +kernel
theorem dX5_lay_7 : decode cX5_lay 7 = .ok (.ifCond .eq 24, 3) := by decide +kernel
theorem dX5_lay_10 : decode cX5_lay 10 = .ok (.iload_n 2, 1) := by decide +kernel
theorem dX5_lay_11 : decode cX5_lay 11 = .ok (.iconst 2, 1) := by decide +kernel
theorem dX5_lay_12 : decode cX5_lay 12 = .ok (.iconst 4, 1) := by decide +kernel
theorem dX5_lay_13 : decode cX5_lay 13 = .ok (.invokestatic 45, 3) := by decide +kernel
theorem dX5_lay_16 : decode cX5_lay 16 = .ok (.ifCond .eq 15, 3) := by decide +kernel
theorem dX5_lay_19 : decode cX5_lay 19 = .ok (.iload_n 1, 1) := by decide +kernel
theorem dX5_lay_20 : decode cX5_lay 20 = .ok (.iload_n 2, 1) := by decide +kernel
theorem dX5_lay_21 : decode cX5_lay 21 = .ok (.imul, 1) := by decide +kernel
theorem dX5_lay_22 : decode cX5_lay 22 = .ok (.bipush 12, 2) := by decide +kernel
theorem dX5_lay_24 : decode cX5_lay 24 = .ok (.if_icmp .gt 7, 3) := by decide +kernel
theorem dX5_lay_27 : decode cX5_lay 27 = .ok (.iconst 0, 1) := by decide +kernel
theorem dX5_lay_28 : decode cX5_lay 28 = .ok (.goto 4, 3) := by decide +kernel
theorem dX5_lay_31 : decode cX5_lay 31 = .ok (.iconst 1, 1) := by decide +kernel
theorem dX5_lay_32 : decode cX5_lay 32 = .ok (.invokevirtual 76, 3) := by decide +kernel
theorem dX5_lay_35 : decode cX5_lay 35 = .ok (.ifCond .ne 5, 3) := by decide +kernel
theorem dX5_lay_38 : decode cX5_lay 38 = .ok (.iconst 0, 1) := by decide +kernel
theorem dX5_lay_39 : decode cX5_lay 39 = .ok (.ireturn, 1) := by decide +kernel
theorem dX5_lay_40 : decode cX5_lay 40 = .ok (.aload_n 0, 1) := by decide +kernel
theorem dX5_lay_41 : decode cX5_lay 41 = .ok (.iload_n 1, 1) := by decide +kernel
theorem dX5_lay_42 : decode cX5_lay 42 = .ok (.putfield 7, 3) := by decide +kernel
theorem dX5_lay_45 : decode cX5_lay 45 = .ok (.aload_n 0, 1) := by decide +kernel
theorem dX5_lay_46 : decode cX5_lay 46 = .ok (.iload_n 2, 1) := by decide +kernel
theorem dX5_lay_47 : decode cX5_lay 47 = .ok (.putfield 13, 3) := by decide +kernel
theorem dX5_lay_50 : decode cX5_lay 50 = .ok (.iconst 0, 1) := by decide +kernel
theorem dX5_lay_51 : decode cX5_lay 51 = .ok (.istore_n 3, 1) := by decide +kernel
theorem dX5_lay_52 : decode cX5_lay 52 = .ok (.iload_n 3, 1) := by decide +kernel
theorem dX5_lay_53 : decode cX5_lay 53 = .ok (.bipush 12, 2) := by decide +kernel
theorem dX5_lay_55 : decode cX5_lay 55 = .ok (.if_icmp .ge 16, 3) := by decide +kernel
theorem dX5_lay_58 : decode cX5_lay 58 = .ok (.aload_n 0, 1) := by decide +kernel
theorem dX5_lay_59 : decode cX5_lay 59 = .ok (.getfield 16, 3) := by decide +kernel
theorem dX5_lay_62 : decode cX5_lay 62 = .ok (.iload_n 3, 1) := by decide +kernel
theorem dX5_lay_63 : decode cX5_lay 63 = .ok (.iconst 0, 1) := by decide +kernel
theorem dX5_lay_64 : decode cX5_lay 64 = .ok (.iastore, 1) := by decide +kernel
theorem dX5_lay_65 : decode cX5_lay 65 = .ok (.iinc 3 1, 3) := by decide +kernel
theorem dX5_lay_68 : decode cX5_lay 68 = .ok (.goto (-16), 3) := by decide +kernel
theorem dX5_lay_71 : decode cX5_lay 71 = .ok (.aload_n 0, 1) := by decide +kernel
theorem dX5_lay_72 : decode cX5_lay 72 = .ok (.iconst 0, 1) := by decide +kernel
theorem dX5_lay_73 : decode cX5_lay 73 = .ok (.putfield 80, 3) := by decide +kernel
theorem dX5_lay_76 : decode cX5_lay 76 = .ok (.aload_n 0, 1) := by decide +kernel
theorem dX5_lay_77 : decode cX5_lay 77 = .ok (.iconst 0, 1) := by decide +kernel
theorem dX5_lay_78 : decode cX5_lay 78 = .ok (.putfield 73, 3) := by decide +kernel
theorem dX5_lay_81 : decode cX5_lay 81 = .ok (.aload_n 0, 1) := by decide +kernel
theorem dX5_lay_82 : decode cX5_lay 82 = .ok (.invokevirtual 41, 3) := by decide +kernel
theorem dX5_lay_85 : decode cX5_lay 85 = .ok (.ireturn, 1) := by decide +kernel
set_option maxRecDepth 20000 in
theorem ggX5_areSound_X5_cells : GoodIn wsX5_areSound wsX5_cells := goodIn_r _ [8, 9, 10, 42, 43, 44, 45, 46, 47, 48, 49, 50, 51, 52, 53, 54] (by decide +kernel) (by decide +kernel)
set_option maxRecDepth 20000 in
theorem gX5_areSound_X5_cells : GoodIn wsX5_areSound (wsV RX5 41 RX5 yX5_cells wsX5_cells) := goodIn_app (goodIn_of _ (by decide +kernel)) ggX5_areSound_X5_cells
set_option maxRecDepth 20000 in
theorem ggX5_areSound_X5_has : GoodIn wsX5_areSound wsX5_has := goodIn_r _ [13] (by decide +kernel) (by decide +kernel)
set_option maxRecDepth 20000 in
theorem gX5_areSound_X5_has : GoodIn wsX5_areSound (va_wsS RX5 83 yX5_has wsX5_has) := goodIn_app (goodIn_of _ (by decide +kernel)) ggX5_areSound_X5_has
set_option maxRecDepth 20000 in
theorem ggX5_areSound_X5_isSound : GoodIn wsX5_areSound wsX5_isSound := goodIn_r _ [17, 2, 18, 19, 20, 7, 21, 22, 4, 5, 6, 8, 9, 10, 23, 24, 25, 26, 27, 28, 29, 30, 31, 32, 33, 34, 35, 36, 37, 38, 39, 40, 41, 42, 43, 44, 45, 46, 47, 48, 49, 50, 51, 52, 53, 54] (by decide +kernel) (by decide +kernel)
set_option maxRecDepth 20000 in
theorem gX5_areSound_X5_isSound : GoodIn wsX5_areSound (wsV RX5 69 RX5 yX5_isSound wsX5_isSound) := goodIn_app (goodIn_of _ (by decide +kernel)) ggX5_areSound_X5_isSound
theorem dX5_areSound_0 : decode cX5_areSound 0 = .ok (.iconst 0, 1) := by decide +kernel
theorem dX5_areSound_1 : decode cX5_areSound 1 = .ok (.istore_n 3, 1) := by decide +kernel
theorem dX5_areSound_2 : decode cX5_areSound 2 = .ok (.iload_n 3, 1) := by decide +kernel
theorem dX5_areSound_3 : decode cX5_areSound 3 = .ok (.aload_n 0, 1) := by decide +kernel
theorem dX5_areSound_4 : decode cX5_areSound 4 = .ok (.invokevirtual 41, 3) := by decide +kernel
theorem dX5_areSound_7 : decode cX5_areSound 7 = .ok (.if_icmp .ge 57, 3) := by decide +kernel
theorem dX5_areSound_10 : decode cX5_areSound 10 = .ok (.aload_n 0, 1) := by decide +kernel
theorem dX5_areSound_11 : decode cX5_areSound 11 = .ok (.getfield 35, 3) := by decide +kernel
theorem dX5_areSound_14 : decode cX5_areSound 14 = .ok (.iload_n 3, 1) := by decide +kernel
theorem dX5_areSound_15 : decode cX5_areSound 15 = .ok (.aload_n 0, 1) := by decide +kernel
theorem dX5_areSound_16 : decode cX5_areSound 16 = .ok (.getfield 16, 3) := by decide +kernel
theorem dX5_areSound_19 : decode cX5_areSound 19 = .ok (.iload_n 3, 1) := by decide +kernel
theorem dX5_areSound_20 : decode cX5_areSound 20 = .ok (.iaload, 1) := by decide +kernel
theorem dX5_areSound_21 : decode cX5_areSound 21 = .ok (.iastore, 1) := by decide +kernel
theorem dX5_areSound_22 : decode cX5_areSound 22 = .ok (.aload_n 0, 1) := by decide +kernel
theorem dX5_areSound_23 : decode cX5_areSound 23 = .ok (.getfield 16, 3) := by decide +kernel
theorem dX5_areSound_26 : decode cX5_areSound 26 = .ok (.iload_n 3, 1) := by decide +kernel
theorem dX5_areSound_27 : decode cX5_areSound 27 = .ok (.iload_n 3, 1) := by decide +kernel
theorem dX5_areSound_28 : decode cX5_areSound 28 = .ok (.iload_n 1, 1) := by decide +kernel
theorem dX5_areSound_29 : decode cX5_areSound 29 = .ok (.if_icmp .ne 7, 3) := by decide +kernel
theorem dX5_areSound_32 : decode cX5_areSound 32 = .ok (.iload_n 2, 1) := by decide +kernel
theorem dX5_areSound_33 : decode cX5_areSound 33 = .ok (.goto 24, 3) := by decide +kernel
theorem dX5_areSound_36 : decode cX5_areSound 36 = .ok (.aload_n 0, 1) := by decide +kernel
theorem dX5_areSound_37 : decode cX5_areSound 37 = .ok (.getfield 80, 3) := by decide +kernel
theorem dX5_areSound_40 : decode cX5_areSound 40 = .ok (.iload_n 3, 1) := by decide +kernel
theorem dX5_areSound_41 : decode cX5_areSound 41 = .ok (.invokestatic 83, 3) := by decide +kernel
theorem dX5_areSound_44 : decode cX5_areSound 44 = .ok (.ifCond .eq 12, 3) := by decide +kernel
theorem dX5_areSound_47 : decode cX5_areSound 47 = .ok (.aload_n 0, 1) := by decide +kernel
theorem dX5_areSound_48 : decode cX5_areSound 48 = .ok (.getfield 16, 3) := by decide +kernel
theorem dX5_areSound_51 : decode cX5_areSound 51 = .ok (.iload_n 3, 1) := by decide +kernel
theorem dX5_areSound_52 : decode cX5_areSound 52 = .ok (.iaload, 1) := by decide +kernel
theorem dX5_areSound_53 : decode cX5_areSound 53 = .ok (.goto 4, 3) := by decide +kernel
theorem dX5_areSound_56 : decode cX5_areSound 56 = .ok (.iconst 0, 1) := by decide +kernel
theorem dX5_areSound_57 : decode cX5_areSound 57 = .ok (.iastore, 1) := by decide +kernel
theorem dX5_areSound_58 : decode cX5_areSound 58 = .ok (.iinc 3 1, 3) := by decide +kernel
theorem dX5_areSound_61 : decode cX5_areSound 61 = .ok (.goto (-59), 3) := by decide +kernel
theorem dX5_areSound_64 : decode cX5_areSound 64 = .ok (.aload_n 0, 1) := by decide +kernel
theorem dX5_areSound_65 : decode cX5_areSound 65 = .ok (.invokevirtual 69, 3) := by decide +kernel
theorem dX5_areSound_68 : decode cX5_areSound 68 = .ok (.istore_n 3, 1) := by decide +kernel
theorem dX5_areSound_69 : decode cX5_areSound 69 = .ok (.iconst 0, 1) := by decide +kernel
theorem dX5_areSound_70 : decode cX5_areSound 70 = .ok (.istore 4, 2) := by decide +kernel
theorem dX5_areSound_72 : decode cX5_areSound 72 = .ok (.iload 4, 2) := by decide +kernel
theorem dX5_areSound_74 : decode cX5_areSound 74 = .ok (.aload_n 0, 1) := by decide +kernel
theorem dX5_areSound_75 : decode cX5_areSound 75 = .ok (.invokevirtual 41, 3) := by decide +kernel
theorem dX5_areSound_78 : decode cX5_areSound 78 = .ok (.if_icmp .ge 23, 3) := by decide +kernel
theorem dX5_areSound_81 : decode cX5_areSound 81 = .ok (.aload_n 0, 1) := by decide +kernel
theorem dX5_areSound_82 : decode cX5_areSound 82 = .ok (.getfield 16, 3) := by decide +kernel
theorem dX5_areSound_85 : decode cX5_areSound 85 = .ok (.iload 4, 2) := by decide +kernel
theorem dX5_areSound_87 : decode cX5_areSound 87 = .ok (.aload_n 0, 1) := by decide +kernel
theorem dX5_areSound_88 : decode cX5_areSound 88 = .ok (.getfield 35, 3) := by decide +kernel
theorem dX5_areSound_91 : decode cX5_areSound 91 = .ok (.iload 4, 2) := by decide +kernel
theorem dX5_areSound_93 : decode cX5_areSound 93 = .ok (.iaload, 1) := by decide +kernel
theorem dX5_areSound_94 : decode cX5_areSound 94 = .ok (.iastore, 1) := by decide +kernel
theorem dX5_areSound_95 : decode cX5_areSound 95 = .ok (.iinc 4 1, 3) := by decide +kernel
theorem dX5_areSound_98 : decode cX5_areSound 98 = .ok (.goto (-26), 3) := by decide +kernel
theorem dX5_areSound_101 : decode cX5_areSound 101 = .ok (.iload_n 3, 1) := by decide +kernel
theorem dX5_areSound_102 : decode cX5_areSound 102 = .ok (.ireturn, 1) := by decide +kernel
set_option maxRecDepth 20000 in
theorem ggX5_clue_X5_isIn : GoodIn wsX5_clue wsX5_isIn := goodIn_r _ [6] (by decide +kernel) (by decide +kernel)
set_option maxRecDepth 20000 in
theorem gX5_clue_X5_isIn : GoodIn wsX5_clue (va_wsS RX5 45 yX5_isIn wsX5_isIn) := goodIn_app (goodIn_of _ (by decide +kernel)) ggX5_clue_X5_isIn
set_option maxRecDepth 20000 in
theorem ggX5_clue_X5_isCell : GoodIn wsX5_clue wsX5_isCell := goodIn_r _ [10, 11, 12, 13, 5, 14, 15, 16, 3, 4, 6, 64, 65, 66, 67, 68, 69, 70, 71, 72, 73, 74, 75, 76] (by decide +kernel) (by decide +kernel)
set_option maxRecDepth 20000 in
theorem gX5_clue_X5_isCell : GoodIn wsX5_clue (wsV RX5 87 RX5 yX5_isCell wsX5_isCell) := goodIn_app (goodIn_of _ (by decide +kernel)) ggX5_clue_X5_isCell
set_option maxRecDepth 20000 in
theorem ggX5_clue_X5_areSound : GoodIn wsX5_clue wsX5_areSound := goodIn_r _ [20, 21, 2, 1, 11, 12, 13, 5, 14, 15, 16, 22, 23, 24, 25, 26, 27, 28, 29, 30, 31, 32, 33, 34, 35, 36, 37, 38, 39, 40, 41, 42, 43, 44, 45, 46, 47, 48, 49, 50, 51, 52, 64, 65, 66, 67, 68, 69, 70, 71, 72, 73, 74, 75, 76] (by decide +kernel) (by decide +kernel)
set_option maxRecDepth 20000 in
theorem gX5_clue_X5_areSound : GoodIn wsX5_clue (wsV RX5 90 RX5 yX5_areSound wsX5_areSound) := goodIn_app (goodIn_of _ (by decide +kernel)) ggX5_clue_X5_areSound
set_option maxRecDepth 20000 in
theorem ggX5_clue_X5_can : GoodIn wsX5_clue wsX5_can := goodIn_r _ [56, 57, 64, 65, 66, 67, 68, 69, 70, 71, 72, 73, 74, 75, 76] (by decide +kernel) (by decide +kernel)
set_option maxRecDepth 20000 in
theorem gX5_clue_X5_can : GoodIn wsX5_clue (wsV RX5 76 RX5 yX5_can wsX5_can) := goodIn_app (goodIn_of _ (by decide +kernel)) ggX5_clue_X5_can
set_option maxRecDepth 20000 in
theorem ggX5_clue_X5_empties : GoodIn wsX5_clue wsX5_empties := goodIn_r _ [61, 62, 2, 63, 64, 65, 66, 67, 68, 69, 70, 71, 72, 73, 74, 75, 76] (by decide +kernel) (by decide +kernel)
set_option maxRecDepth 20000 in
theorem gX5_clue_X5_empties : GoodIn wsX5_clue (wsV RX5 93 RX5 yX5_empties wsX5_empties) := goodIn_app (goodIn_of _ (by decide +kernel)) ggX5_clue_X5_empties
set_option maxRecDepth 20000 in
theorem ggX5_clue_X5_has : GoodIn wsX5_clue wsX5_has := goodIn_r _ [24] (by decide +kernel) (by decide +kernel)
set_option maxRecDepth 20000 in
theorem gX5_clue_X5_has : GoodIn wsX5_clue (va_wsS RX5 83 yX5_has wsX5_has) := goodIn_app (goodIn_of _ (by decide +kernel)) ggX5_clue_X5_has
