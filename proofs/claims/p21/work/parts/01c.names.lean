theorem dX2_forget_13 : decode cX2_forget 13 = .ok (.aload_n 0, 1) := by decide +kernel
theorem dX2_forget_14 : decode cX2_forget 14 = .ok (.getfield 9, 3) := by decide +kernel
theorem dX2_forget_17 : decode cX2_forget 17 = .ok (.arraylength, 1) := by decide +kernel
theorem dX2_forget_18 : decode cX2_forget 18 = .ok (.if_icmp .ge 16, 3) := by decide +kernel
theorem dX2_forget_21 : decode cX2_forget 21 = .ok (.aload_n 0, 1) := by decide +kernel
theorem dX2_forget_22 : decode cX2_forget 22 = .ok (.getfield 9, 3) := by decide +kernel
theorem dX2_forget_25 : decode cX2_forget 25 = .ok (.iload_n 1, 1) := by decide +kernel
theorem dX2_forget_26 : decode cX2_forget 26 = .ok (.iconst 0, 1) := by decide +kernel
theorem dX2_forget_27 : decode cX2_forget 27 = .ok (.iastore, 1) := by decide +kernel
theorem dX2_forget_28 : decode cX2_forget 28 = .ok (.iinc 1 1, 3) := by decide +kernel
theorem dX2_forget_31 : decode cX2_forget 31 = .ok (.goto (-19), 3) := by decide +kernel
theorem dX2_forget_34 : decode cX2_forget 34 = .ok (.return_, 1) := by decide +kernel
set_option maxRecDepth 20000 in
theorem ggX2_list_X2_forget : GoodIn wsX2_list wsX2_forget := goodIn_r _ [5, 6, 7, 8, 64, 65, 66] (by decide +kernel) (by decide +kernel)
set_option maxRecDepth 20000 in
theorem gX2_list_X2_forget : GoodIn wsX2_list (wsV RX2 22 RX2 yX2_forget wsX2_forget) := goodIn_app (goodIn_of _ (by decide +kernel)) ggX2_list_X2_forget
set_option maxRecDepth 20000 in
theorem ggX2_list_X0_numberIn : GoodIn wsX2_list wsX0_numberIn := goodIn_r _ [12, 13, 14, 15, 10, 16, 17, 18, 19, 67, 68, 69, 70, 71] (by decide +kernel) (by decide +kernel)
set_option maxRecDepth 20000 in
theorem gX2_list_X0_numberIn_n25 : GoodIn wsX2_list (wsX0_numberIn) := ggX2_list_X0_numberIn
set_option maxRecDepth 20000 in
theorem ggX2_list_X0_fieldOf : GoodIn wsX2_list wsX0_fieldOf := goodIn_r _ [22, 23, 9, 11, 10, 12, 13, 14, 15, 16, 17, 18, 19, 24, 25, 26, 27, 28, 29, 30, 31, 32, 33, 34, 35, 36, 37, 38, 39, 67, 68, 69, 70, 71] (by decide +kernel) (by decide +kernel)
set_option maxRecDepth 20000 in
theorem gX2_list_X0_fieldOf_n31 : GoodIn wsX2_list (wsX0_fieldOf) := ggX2_list_X0_fieldOf
set_option maxRecDepth 20000 in
theorem ggX2_list_X0_roomOf : GoodIn wsX2_list wsX0_roomOf := goodIn_r _ [42, 23, 9, 11, 10, 12, 13, 14, 15, 16, 17, 18, 19, 24, 25, 26, 27, 43, 44, 45, 46, 28, 29, 30, 31, 32, 33, 34, 35, 36, 37, 38, 39, 67, 68, 69, 70, 71] (by decide +kernel) (by decide +kernel)
set_option maxRecDepth 20000 in
theorem gX2_list_X0_roomOf_n34 : GoodIn wsX2_list (wsX0_roomOf) := ggX2_list_X0_roomOf
set_option maxRecDepth 20000 in
theorem ggX2_list_X0_isShape : GoodIn wsX2_list wsX0_isShape := goodIn_r _ [49, 50, 51, 52, 53, 54, 55, 56, 32, 33, 34, 10, 35, 36, 37, 38, 39, 24, 25, 26, 27, 13, 57, 58, 59, 28, 29, 30, 31, 67, 68, 69, 70, 71] (by decide +kernel) (by decide +kernel)
set_option maxRecDepth 20000 in
theorem gX2_list_X0_isShape_n37 : GoodIn wsX2_list (wsX0_isShape) := ggX2_list_X0_isShape
set_option maxRecDepth 20000 in
theorem ggX2_list_X2_note : GoodIn wsX2_list wsX2_note := goodIn_r _ [63, 6, 7, 8, 15, 10, 16, 17, 18, 19, 64, 65, 66] (by decide +kernel) (by decide +kernel)
set_option maxRecDepth 20000 in
theorem gX2_list_X2_note : GoodIn wsX2_list (wsV RX2 41 RX2 yX2_note wsX2_note) := goodIn_app (goodIn_of _ (by decide +kernel)) ggX2_list_X2_note
theorem dX2_list_0 : decode cX2_list 0 = .ok (.aload_n 0, 1) := by decide +kernel
theorem dX2_list_1 : decode cX2_list 1 = .ok (.invokevirtual 22, 3) := by decide +kernel
theorem dX2_list_4 : decode cX2_list 4 = .ok (.aload_n 1, 1) := by decide +kernel
theorem dX2_list_5 : decode cX2_list 5 = .ok (.iload_n 2, 1) := by decide +kernel
theorem dX2_list_6 : decode cX2_list 6 = .ok (.invokevirtual 25, 3) := by decide +kernel
theorem dX2_list_9 : decode cX2_list 9 = .ok (.istore_n 3, 1) := by decide +kernel
theorem dX2_list_10 : decode cX2_list 10 = .ok (.iload_n 3, 1) := by decide +kernel
theorem dX2_list_11 : decode cX2_list 11 = .ok (.ifCond .ne 4, 3) := by decide +kernel
theorem dX2_list_14 : decode cX2_list 14 = .ok (.return_, 1) := by decide +kernel
theorem dX2_list_15 : decode cX2_list 15 = .ok (.aload_n 1, 1) := by decide +kernel
theorem dX2_list_16 : decode cX2_list 16 = .ok (.iload_n 2, 1) := by decide +kernel
theorem dX2_list_17 : decode cX2_list 17 = .ok (.invokevirtual 31, 3) := by decide +kernel
theorem dX2_list_20 : decode cX2_list 20 = .ok (.istore 4, 2) := by decide +kernel
theorem dX2_list_22 : decode cX2_list 22 = .ok (.aload_n 1, 1) := by decide +kernel
theorem dX2_list_23 : decode cX2_list 23 = .ok (.iload_n 2, 1) := by decide +kernel
theorem dX2_list_24 : decode cX2_list 24 = .ok (.invokevirtual 34, 3) := by decide +kernel
theorem dX2_list_27 : decode cX2_list 27 = .ok (.iload 4, 2) := by decide +kernel
theorem dX2_list_29 : decode cX2_list 29 = .ok (.iconst (-1), 1) := by decide +kernel
theorem dX2_list_30 : decode cX2_list 30 = .ok (.ixor, 1) := by decide +kernel
theorem dX2_list_31 : decode cX2_list 31 = .ok (.iand, 1) := by decide +kernel
theorem dX2_list_32 : decode cX2_list 32 = .ok (.istore 5, 2) := by decide +kernel
theorem dX2_list_34 : decode cX2_list 34 = .ok (.iconst 0, 1) := by decide +kernel
theorem dX2_list_35 : decode cX2_list 35 = .ok (.istore 6, 2) := by decide +kernel
theorem dX2_list_37 : decode cX2_list 37 = .ok (.iconst 0, 1) := by decide +kernel
theorem dX2_list_38 : decode cX2_list 38 = .ok (.istore 7, 2) := by decide +kernel
theorem dX2_list_40 : decode cX2_list 40 = .ok (.iload 7, 2) := by decide +kernel
theorem dX2_list_42 : decode cX2_list 42 = .ok (.sipush 4096, 3) := by decide +kernel
theorem dX2_list_45 : decode cX2_list 45 = .ok (.if_icmp .ge 47, 3) := by decide +kernel
theorem dX2_list_48 : decode cX2_list 48 = .ok (.aload_n 1, 1) := by decide +kernel
theorem dX2_list_49 : decode cX2_list 49 = .ok (.iload 4, 2) := by decide +kernel
theorem dX2_list_51 : decode cX2_list 51 = .ok (.iload 6, 2) := by decide +kernel
theorem dX2_list_53 : decode cX2_list 53 = .ok (.ior, 1) := by decide +kernel
theorem dX2_list_54 : decode cX2_list 54 = .ok (.iload_n 3, 1) := by decide +kernel
theorem dX2_list_55 : decode cX2_list 55 = .ok (.invokevirtual 37, 3) := by decide +kernel
theorem dX2_list_58 : decode cX2_list 58 = .ok (.ifCond .eq 12, 3) := by decide +kernel
theorem dX2_list_61 : decode cX2_list 61 = .ok (.aload_n 0, 1) := by decide +kernel
theorem dX2_list_62 : decode cX2_list 62 = .ok (.iload 4, 2) := by decide +kernel
theorem dX2_list_64 : decode cX2_list 64 = .ok (.iload 6, 2) := by decide +kernel
theorem dX2_list_66 : decode cX2_list 66 = .ok (.ior, 1) := by decide +kernel
theorem dX2_list_67 : decode cX2_list 67 = .ok (.invokevirtual 41, 3) := by decide +kernel
theorem dX2_list_70 : decode cX2_list 70 = .ok (.iload 6, 2) := by decide +kernel
theorem dX2_list_72 : decode cX2_list 72 = .ok (.iload 5, 2) := by decide +kernel
theorem dX2_list_74 : decode cX2_list 74 = .ok (.isub, 1) := by decide +kernel
theorem dX2_list_75 : decode cX2_list 75 = .ok (.iload 5, 2) := by decide +kernel
theorem dX2_list_77 : decode cX2_list 77 = .ok (.iand, 1) := by decide +kernel
theorem dX2_list_78 : decode cX2_list 78 = .ok (.istore 6, 2) := by decide +kernel
theorem dX2_list_80 : decode cX2_list 80 = .ok (.iload 6, 2) := by decide +kernel
theorem dX2_list_82 : decode cX2_list 82 = .ok (.ifCond .ne 4, 3) := by decide +kernel
theorem dX2_list_85 : decode cX2_list 85 = .ok (.return_, 1) := by decide +kernel
theorem dX2_list_86 : decode cX2_list 86 = .ok (.iinc 7 1, 3) := by decide +kernel
theorem dX2_list_89 : decode cX2_list 89 = .ok (.goto (-49), 3) := by decide +kernel
theorem dX2_list_92 : decode cX2_list 92 = .ok (.return_, 1) := by decide +kernel
set_option maxRecDepth 20000 in
theorem ggX2_note_X0_has : GoodIn wsX2_note wsX0_has := goodIn_r _ [6, 7, 8, 5, 9] (by decide +kernel) (by decide +kernel)
set_option maxRecDepth 20000 in
theorem gX2_note_X0_has_n45 : GoodIn wsX2_note (wsX0_has) := ggX2_note_X0_has
theorem dX2_note_0 : decode cX2_note 0 = .ok (.aload_n 0, 1) := by decide +kernel
theorem dX2_note_1 : decode cX2_note 1 = .ok (.aload_n 0, 1) := by decide +kernel
theorem dX2_note_2 : decode cX2_note 2 = .ok (.getfield 15, 3) := by decide +kernel
theorem dX2_note_5 : decode cX2_note 5 = .ok (.ifCond .ne 7, 3) := by decide +kernel
theorem dX2_note_8 : decode cX2_note 8 = .ok (.iload_n 1, 1) := by decide +kernel
theorem dX2_note_9 : decode cX2_note 9 = .ok (.goto 9, 3) := by decide +kernel
theorem dX2_note_12 : decode cX2_note 12 = .ok (.aload_n 0, 1) := by decide +kernel
theorem dX2_note_13 : decode cX2_note 13 = .ok (.getfield 19, 3) := by decide +kernel
theorem dX2_note_16 : decode cX2_note 16 = .ok (.iload_n 1, 1) := by decide +kernel
theorem dX2_note_17 : decode cX2_note 17 = .ok (.iand, 1) := by decide +kernel
theorem dX2_note_18 : decode cX2_note 18 = .ok (.putfield 19, 3) := by decide +kernel
theorem dX2_note_21 : decode cX2_note 21 = .ok (.aload_n 0, 1) := by decide +kernel
theorem dX2_note_22 : decode cX2_note 22 = .ok (.dup, 1) := by decide +kernel
theorem dX2_note_23 : decode cX2_note 23 = .ok (.getfield 15, 3) := by decide +kernel
theorem dX2_note_26 : decode cX2_note 26 = .ok (.iconst 1, 1) := by decide +kernel
theorem dX2_note_27 : decode cX2_note 27 = .ok (.iadd, 1) := by decide +kernel
theorem dX2_note_28 : decode cX2_note 28 = .ok (.putfield 15, 3) := by decide +kernel
theorem dX2_note_31 : decode cX2_note 31 = .ok (.iconst 0, 1) := by decide +kernel
theorem dX2_note_32 : decode cX2_note 32 = .ok (.istore_n 2, 1) := by decide +kernel
theorem dX2_note_33 : decode cX2_note 33 = .ok (.iload_n 2, 1) := by decide +kernel
theorem dX2_note_34 : decode cX2_note 34 = .ok (.aload_n 0, 1) := by decide +kernel
theorem dX2_note_35 : decode cX2_note 35 = .ok (.getfield 9, 3) := by decide +kernel
theorem dX2_note_38 : decode cX2_note 38 = .ok (.arraylength, 1) := by decide +kernel
theorem dX2_note_39 : decode cX2_note 39 = .ok (.if_icmp .ge 27, 3) := by decide +kernel
theorem dX2_note_42 : decode cX2_note 42 = .ok (.iload_n 1, 1) := by decide +kernel
theorem dX2_note_43 : decode cX2_note 43 = .ok (.iload_n 2, 1) := by decide +kernel
theorem dX2_note_44 : decode cX2_note 44 = .ok (.invokestatic 45, 3) := by decide +kernel
theorem dX2_note_47 : decode cX2_note 47 = .ok (.ifCond .eq 13, 3) := by decide +kernel
theorem dX2_note_50 : decode cX2_note 50 = .ok (.aload_n 0, 1) := by decide +kernel
theorem dX2_note_51 : decode cX2_note 51 = .ok (.getfield 9, 3) := by decide +kernel
theorem dX2_note_54 : decode cX2_note 54 = .ok (.iload_n 2, 1) := by decide +kernel
theorem dX2_note_55 : decode cX2_note 55 = .ok (.dup2, 1) := by decide +kernel
theorem dX2_note_56 : decode cX2_note 56 = .ok (.iaload, 1) := by decide +kernel
theorem dX2_note_57 : decode cX2_note 57 = .ok (.iconst 1, 1) := by decide +kernel
theorem dX2_note_58 : decode cX2_note 58 = .ok (.iadd, 1) := by decide +kernel
theorem dX2_note_59 : decode cX2_note 59 = .ok (.iastore, 1) := by decide +kernel
theorem dX2_note_60 : decode cX2_note 60 = .ok (.iinc 2 1, 3) := by decide +kernel
theorem dX2_note_63 : decode cX2_note 63 = .ok (.goto (-30), 3) := by decide +kernel
theorem dX2_note_66 : decode cX2_note 66 = .ok (.return_, 1) := by decide +kernel
theorem dX2_countOfThoseWith_0 : decode cX2_countOfThoseWith 0 = .ok (.iload_n 1, 1) := by decide +kernel
theorem dX2_countOfThoseWith_1 : decode cX2_countOfThoseWith 1 = .ok (.ifCond .lt 21, 3) := by decide +kernel
theorem dX2_countOfThoseWith_4 : decode cX2_countOfThoseWith 4 = .ok (.iload_n 1, 1) := by decide +kernel
theorem dX2_countOfThoseWith_5 : decode cX2_countOfThoseWith 5 = .ok (.aload_n 0, 1) := by decide +kernel
theorem dX2_countOfThoseWith_6 : decode cX2_countOfThoseWith 6 = .ok (.getfield 9, 3) := by decide +kernel
theorem dX2_countOfThoseWith_9 : decode cX2_countOfThoseWith 9 = .ok (.arraylength, 1) := by decide +kernel
theorem dX2_countOfThoseWith_10 : decode cX2_countOfThoseWith 10 = .ok (.if_icmp .ge 12, 3) := by decide +kernel
theorem dX2_countOfThoseWith_13 : decode cX2_countOfThoseWith 13 = .ok (.aload_n 0, 1) := by decide +kernel
theorem dX2_countOfThoseWith_14 : decode cX2_countOfThoseWith 14 = .ok (.getfield 9, 3) := by decide +kernel
theorem dX2_countOfThoseWith_17 : decode cX2_countOfThoseWith 17 = .ok (.iload_n 1, 1) := by decide +kernel
theorem dX2_countOfThoseWith_18 : decode cX2_countOfThoseWith 18 = .ok (.iaload, 1) := by decide +kernel
theorem dX2_countOfThoseWith_19 : decode cX2_countOfThoseWith 19 = .ok (.goto 4, 3) := by decide +kernel
theorem dX2_countOfThoseWith_22 : decode cX2_countOfThoseWith 22 = .ok (.iconst 0, 1) := by decide +kernel
theorem dX2_countOfThoseWith_23 : decode cX2_countOfThoseWith 23 = .ok (.ireturn, 1) := by decide +kernel
theorem dX3_init_0 : decode cX3_init 0 = .ok (.aload_n 0, 1) := by decide +kernel
theorem dX3_init_1 : decode cX3_init 1 = .ok (.invokespecial 3, 3) := by decide +kernel
theorem dX3_init_4 : decode cX3_init 4 = .ok (.aload_n 0, 1) := by decide +kernel
theorem dX3_init_5 : decode cX3_init 5 = .ok (.bipush 12, 2) := by decide +kernel
theorem dX3_init_7 : decode cX3_init 7 = .ok (.newarray .int, 2) := by decide +kernel
theorem dX3_init_9 : decode cX3_init 9 = .ok (.putfield 9, 3) := by decide +kernel
theorem dX3_init_12 : decode cX3_init 12 = .ok (.return_, 1) := by decide +kernel
set_option maxRecDepth 20000 in
theorem ggX3_countSolutions_X0_cellCount : GoodIn wsX3_countSolutions wsX0_cellCount := goodIn_r _ [4, 5, 6, 7, 8, 9, 10, 11, 12, 71, 72, 73, 74, 75] (by decide +kernel) (by decide +kernel)
set_option maxRecDepth 20000 in
theorem gX3_countSolutions_X0_cellCount_n15 : GoodIn wsX3_countSolutions (wsX0_cellCount) := ggX3_countSolutions_X0_cellCount
set_option maxRecDepth 20000 in
theorem ggX3_countSolutions_X0_numberIn : GoodIn wsX3_countSolutions wsX0_numberIn := goodIn_r _ [15, 16, 17, 18, 2, 19, 20, 21, 22, 71, 72, 73, 74, 75] (by decide +kernel) (by decide +kernel)
set_option maxRecDepth 20000 in
theorem gX3_countSolutions_X0_numberIn_n21 : GoodIn wsX3_countSolutions (wsX0_numberIn) := ggX3_countSolutions_X0_numberIn
set_option maxRecDepth 20000 in
theorem ggX3_countSolutions_X0_leavesEnough : GoodIn wsX3_countSolutions wsX0_leavesEnough := goodIn_r _ [25, 26, 27, 28, 2, 29, 16, 6, 7, 8, 9, 10, 11, 12, 30, 31, 32, 33, 34, 35, 36, 37, 71, 72, 73, 74, 75] (by decide +kernel) (by decide +kernel)
set_option maxRecDepth 20000 in
theorem gX3_countSolutions_X0_leavesEnough_n25 : GoodIn wsX3_countSolutions (wsX0_leavesEnough) := ggX3_countSolutions_X0_leavesEnough
set_option maxRecDepth 20000 in
theorem ggX3_countSolutions_X0_canTake : GoodIn wsX3_countSolutions wsX0_canTake := goodIn_r _ [40, 34, 35, 36, 2, 37, 26, 27, 28, 29, 16, 17, 18, 19, 20, 21, 22, 41, 42, 43, 44, 45, 46, 47, 48, 49, 13, 14, 15, 50, 51, 52, 53, 54, 55, 56, 57, 58, 59, 60, 5, 6, 7, 8, 9, 10, 11, 12, 61, 62, 63, 64, 65, 66, 67, 71, 72, 73, 74, 75] (by decide +kernel) (by decide +kernel)
set_option maxRecDepth 20000 in
theorem gX3_countSolutions_X0_canTake_n29 : GoodIn wsX3_countSolutions (wsX0_canTake) := ggX3_countSolutions_X0_canTake
set_option maxRecDepth 20000 in
theorem ggX3_countSolutions_X0_write : GoodIn wsX3_countSolutions wsX0_write := goodIn_r _ [44, 16, 20, 21, 2, 22, 71, 72, 73, 74, 75] (by decide +kernel) (by decide +kernel)
set_option maxRecDepth 20000 in
theorem gX3_countSolutions_X0_write_n33 : GoodIn wsX3_countSolutions (wsX0_write) := ggX3_countSolutions_X0_write
set_option maxRecDepth 20000 in
theorem ggX3_countSolutions_X3_countSolutions : GoodIn wsX3_countSolutions wsX3_countSolutions := goodIn_r _ [0, 1, 2, 3, 4, 5, 6, 7, 8, 9, 10, 11, 12, 13, 14, 15, 16, 17, 18, 19, 20, 21, 22, 23, 24, 25, 26, 27, 28, 29, 30, 31, 32, 33, 34, 35, 36, 37, 38, 39, 40, 41, 42, 43, 44, 45, 46, 47, 48, 49, 50, 51, 52, 53, 54, 55, 56, 57, 58, 59, 60, 61, 62, 63, 64, 65, 66, 67, 68, 69, 70, 71, 72, 73, 74, 75] (by decide +kernel) (by decide +kernel)
set_option maxRecDepth 20000 in
theorem gX3_countSolutions_X3_countSolutions : GoodIn wsX3_countSolutions (va_wsS RX3 37 yX3_countSolutions wsX3_countSolutions) := goodIn_app (goodIn_of _ (by decide +kernel)) ggX3_countSolutions_X3_countSolutions
theorem dX3_countSolutions_0 : decode cX3_countSolutions 0 = .ok (.iload_n 1, 1) := by decide +kernel
theorem dX3_countSolutions_1 : decode cX3_countSolutions 1 = .ok (.istore_n 3, 1) := by decide +kernel
theorem dX3_countSolutions_2 : decode cX3_countSolutions 2 = .ok (.iload_n 3, 1) := by decide +kernel
theorem dX3_countSolutions_3 : decode cX3_countSolutions 3 = .ok (.aload_n 0, 1) := by decide +kernel
theorem dX3_countSolutions_4 : decode cX3_countSolutions 4 = .ok (.invokevirtual 15, 3) := by decide +kernel
theorem dX3_countSolutions_7 : decode cX3_countSolutions 7 = .ok (.if_icmp .ge 17, 3) := by decide +kernel
theorem dX3_countSolutions_10 : decode cX3_countSolutions 10 = .ok (.aload_n 0, 1) := by decide +kernel
theorem dX3_countSolutions_11 : decode cX3_countSolutions 11 = .ok (.iload_n 3, 1) := by decide +kernel
theorem dX3_countSolutions_12 : decode cX3_countSolutions 12 = .ok (.invokevirtual 21, 3) := by decide +kernel
theorem dX3_countSolutions_15 : decode cX3_countSolutions 15 = .ok (.ifCond .eq 9, 3) := by decide +kernel
theorem dX3_countSolutions_18 : decode cX3_countSolutions 18 = .ok (.iinc 3 1, 3) := by decide +kernel
theorem dX3_countSolutions_21 : decode cX3_countSolutions 21 = .ok (.goto (-19), 3) := by decide +kernel
theorem dX3_countSolutions_24 : decode cX3_countSolutions 24 = .ok (.iload_n 3, 1) := by decide +kernel
theorem dX3_countSolutions_25 : decode cX3_countSolutions 25 = .ok (.aload_n 0, 1) := by decide +kernel
theorem dX3_countSolutions_26 : decode cX3_countSolutions 26 = .ok (.invokevirtual 15, 3) := by decide +kernel
theorem dX3_countSolutions_29 : decode cX3_countSolutions 29 = .ok (.if_icmp .lt 5, 3) := by decide +kernel
theorem dX3_countSolutions_32 : decode cX3_countSolutions 32 = .ok (.iconst 1, 1) := by decide +kernel
theorem dX3_countSolutions_33 : decode cX3_countSolutions 33 = .ok (.ireturn, 1) := by decide +kernel
theorem dX3_countSolutions_34 : decode cX3_countSolutions 34 = .ok (.iconst 0, 1) := by decide +kernel
theorem dX3_countSolutions_35 : decode cX3_countSolutions 35 = .ok (.istore 4, 2) := by decide +kernel
theorem dX3_countSolutions_37 : decode cX3_countSolutions 37 = .ok (.iconst 1, 1) := by decide +kernel
theorem dX3_countSolutions_38 : decode cX3_countSolutions 38 = .ok (.istore 5, 2) := by decide +kernel
theorem dX3_countSolutions_40 : decode cX3_countSolutions 40 = .ok (.iload 5, 2) := by decide +kernel
theorem dX3_countSolutions_42 : decode cX3_countSolutions 42 = .ok (.bipush 9, 2) := by decide +kernel
theorem dX3_countSolutions_44 : decode cX3_countSolutions 44 = .ok (.if_icmp .gt 63, 3) := by decide +kernel
theorem dX3_countSolutions_47 : decode cX3_countSolutions 47 = .ok (.iload 4, 2) := by decide +kernel
theorem dX3_countSolutions_49 : decode cX3_countSolutions 49 = .ok (.iload_n 2, 1) := by decide +kernel
theorem dX3_countSolutions_50 : decode cX3_countSolutions 50 = .ok (.if_icmp .ge 57, 3) := by decide +kernel
theorem dX3_countSolutions_53 : decode cX3_countSolutions 53 = .ok (.aload_n 0, 1) := by decide +kernel
theorem dX3_countSolutions_54 : decode cX3_countSolutions 54 = .ok (.iload 5, 2) := by decide +kernel
theorem dX3_countSolutions_56 : decode cX3_countSolutions 56 = .ok (.invokevirtual 25, 3) := by decide +kernel
theorem dX3_countSolutions_59 : decode cX3_countSolutions 59 = .ok (.ifCond .eq 42, 3) := by decide +kernel
theorem dX3_countSolutions_62 : decode cX3_countSolutions 62 = .ok (.aload_n 0, 1) := by decide +kernel
theorem dX3_countSolutions_63 : decode cX3_countSolutions 63 = .ok (.iload_n 3, 1) := by decide +kernel
theorem dX3_countSolutions_64 : decode cX3_countSolutions 64 = .ok (.iload 5, 2) := by decide +kernel
theorem dX3_countSolutions_66 : decode cX3_countSolutions 66 = .ok (.invokevirtual 29, 3) := by decide +kernel
theorem dX3_countSolutions_69 : decode cX3_countSolutions 69 = .ok (.ifCond .eq 32, 3) := by decide +kernel
theorem dX3_countSolutions_72 : decode cX3_countSolutions 72 = .ok (.aload_n 0, 1) := by decide +kernel
theorem dX3_countSolutions_73 : decode cX3_countSolutions 73 = .ok (.iload_n 3, 1) := by decide +kernel
theorem dX3_countSolutions_74 : decode cX3_countSolutions 74 = .ok (.iload 5, 2) := by decide +kernel
theorem dX3_countSolutions_76 : decode cX3_countSolutions 76 = .ok (.invokevirtual 33, 3) := by decide +kernel
theorem dX3_countSolutions_79 : decode cX3_countSolutions 79 = .ok (.iload 4, 2) := by decide +kernel
theorem dX3_countSolutions_81 : decode cX3_countSolutions 81 = .ok (.aload_n 0, 1) := by decide +kernel
theorem dX3_countSolutions_82 : decode cX3_countSolutions 82 = .ok (.iload_n 3, 1) := by decide +kernel
theorem dX3_countSolutions_83 : decode cX3_countSolutions 83 = .ok (.iconst 1, 1) := by decide +kernel
theorem dX3_countSolutions_84 : decode cX3_countSolutions 84 = .ok (.iadd, 1) := by decide +kernel
theorem dX3_countSolutions_85 : decode cX3_countSolutions 85 = .ok (.iload_n 2, 1) := by decide +kernel
theorem dX3_countSolutions_86 : decode cX3_countSolutions 86 = .ok (.iload 4, 2) := by decide +kernel
theorem dX3_countSolutions_88 : decode cX3_countSolutions 88 = .ok (.isub, 1) := by decide +kernel
theorem dX3_countSolutions_89 : decode cX3_countSolutions 89 = .ok (.invokestatic 37, 3) := by decide +kernel
theorem dX3_countSolutions_92 : decode cX3_countSolutions 92 = .ok (.iadd, 1) := by decide +kernel
theorem dX3_countSolutions_93 : decode cX3_countSolutions 93 = .ok (.istore 4, 2) := by decide +kernel
theorem dX3_countSolutions_95 : decode cX3_countSolutions 95 = .ok (.aload_n 0, 1) := by decide +kernel
theorem dX3_countSolutions_96 : decode cX3_countSolutions 96 = .ok (.iload_n 3, 1) := by decide +kernel
theorem dX3_countSolutions_97 : decode cX3_countSolutions 97 = .ok (.iconst 0, 1) := by decide +kernel
theorem dX3_countSolutions_98 : decode cX3_countSolutions 98 = .ok (.invokevirtual 33, 3) := by decide +kernel
theorem dX3_countSolutions_101 : decode cX3_countSolutions 101 = .ok (.iinc 5 1, 3) := by decide +kernel
theorem dX3_countSolutions_104 : decode cX3_countSolutions 104 = .ok (.goto (-64), 3) := by decide +kernel
theorem dX3_countSolutions_107 : decode cX3_countSolutions 107 = .ok (.iload 4, 2) := by decide +kernel
theorem dX3_countSolutions_109 : decode cX3_countSolutions 109 = .ok (.ireturn, 1) := by decide +kernel
set_option maxRecDepth 20000 in
theorem ggX3_solveByDraws_X0_cellCount : GoodIn wsX3_solveByDraws wsX0_cellCount := goodIn_r _ [5, 6, 7, 8, 9, 10, 11, 12, 13, 83, 84, 85, 86, 87] (by decide +kernel) (by decide +kernel)
set_option maxRecDepth 20000 in
theorem gX3_solveByDraws_X0_cellCount_n15 : GoodIn wsX3_solveByDraws (wsX0_cellCount) := ggX3_solveByDraws_X0_cellCount
set_option maxRecDepth 20000 in
theorem ggX3_solveByDraws_X1_nextBelow : GoodIn wsX3_solveByDraws wsX1_nextBelow := goodIn_r _ [17, 18, 19, 20, 21, 22, 88] (by decide +kernel) (by decide +kernel)
set_option maxRecDepth 20000 in
theorem gX3_solveByDraws_X1_nextBelow_n41 : GoodIn wsX3_solveByDraws (wsX1_nextBelow) := ggX3_solveByDraws_X1_nextBelow
set_option maxRecDepth 20000 in
theorem ggX3_solveByDraws_X3_solveFrom : GoodIn wsX3_solveByDraws wsX3_solveFrom := goodIn_r _ [26, 2, 3, 4, 5, 6, 7, 8, 9, 10, 11, 12, 13, 27, 28, 29, 30, 31, 32, 33, 34, 35, 36, 37, 38, 39, 40, 41, 42, 43, 44, 45, 46, 47, 48, 49, 50, 51, 52, 53, 54, 55, 56, 57, 58, 59, 60, 61, 62, 63, 64, 65, 66, 67, 68, 69, 70, 71, 72, 73, 74, 75, 76, 77, 78, 79, 80, 81, 23, 24, 25, 83, 84, 85, 86, 87] (by decide +kernel) (by decide +kernel)
set_option maxRecDepth 20000 in
theorem gX3_solveByDraws_X3_solveFrom : GoodIn wsX3_solveByDraws (va_wsS RX3 46 yX3_solveFrom wsX3_solveFrom) := goodIn_app (goodIn_of _ (by decide +kernel)) ggX3_solveByDraws_X3_solveFrom
theorem dX3_solveByDraws_0 : decode cX3_solveByDraws 0 = .ok (.iconst 0, 1) := by decide +kernel
theorem dX3_solveByDraws_1 : decode cX3_solveByDraws 1 = .ok (.istore_n 3, 1) := by decide +kernel
theorem dX3_solveByDraws_2 : decode cX3_solveByDraws 2 = .ok (.iload_n 3, 1) := by decide +kernel
theorem dX3_solveByDraws_3 : decode cX3_solveByDraws 3 = .ok (.aload_n 1, 1) := by decide +kernel
theorem dX3_solveByDraws_4 : decode cX3_solveByDraws 4 = .ok (.invokevirtual 15, 3) := by decide +kernel
theorem dX3_solveByDraws_7 : decode cX3_solveByDraws 7 = .ok (.if_icmp .ge 32, 3) := by decide +kernel
theorem dX3_solveByDraws_10 : decode cX3_solveByDraws 10 = .ok (.iload_n 3, 1) := by decide +kernel
theorem dX3_solveByDraws_11 : decode cX3_solveByDraws 11 = .ok (.aload_n 0, 1) := by decide +kernel
theorem dX3_solveByDraws_12 : decode cX3_solveByDraws 12 = .ok (.getfield 9, 3) := by decide +kernel
theorem dX3_solveByDraws_15 : decode cX3_solveByDraws 15 = .ok (.arraylength, 1) := by decide +kernel
theorem dX3_solveByDraws_16 : decode cX3_solveByDraws 16 = .ok (.if_icmp .ge 23, 3) := by decide +kernel
theorem dX3_solveByDraws_19 : decode cX3_solveByDraws 19 = .ok (.aload_n 0, 1) := by decide +kernel
theorem dX3_solveByDraws_20 : decode cX3_solveByDraws 20 = .ok (.getfield 9, 3) := by decide +kernel
theorem dX3_solveByDraws_23 : decode cX3_solveByDraws 23 = .ok (.iload_n 3, 1) := by decide +kernel
theorem dX3_solveByDraws_24 : decode cX3_solveByDraws 24 = .ok (.aload_n 2, 1) := by decide +kernel
theorem dX3_solveByDraws_25 : decode cX3_solveByDraws 25 = .ok (.bipush 9, 2) := by decide +kernel
theorem dX3_solveByDraws_27 : decode cX3_solveByDraws 27 = .ok (.invokevirtual 41, 3) := by decide +kernel
theorem dX3_solveByDraws_30 : decode cX3_solveByDraws 30 = .ok (.iconst 1, 1) := by decide +kernel
theorem dX3_solveByDraws_31 : decode cX3_solveByDraws 31 = .ok (.iadd, 1) := by decide +kernel
theorem dX3_solveByDraws_32 : decode cX3_solveByDraws 32 = .ok (.iastore, 1) := by decide +kernel
theorem dX3_solveByDraws_33 : decode cX3_solveByDraws 33 = .ok (.iinc 3 1, 3) := by decide +kernel
theorem dX3_solveByDraws_36 : decode cX3_solveByDraws 36 = .ok (.goto (-34), 3) := by decide +kernel
theorem dX3_solveByDraws_39 : decode cX3_solveByDraws 39 = .ok (.aload_n 1, 1) := by decide +kernel
theorem dX3_solveByDraws_40 : decode cX3_solveByDraws 40 = .ok (.iconst 0, 1) := by decide +kernel
theorem dX3_solveByDraws_41 : decode cX3_solveByDraws 41 = .ok (.aload_n 0, 1) := by decide +kernel
theorem dX3_solveByDraws_42 : decode cX3_solveByDraws 42 = .ok (.getfield 9, 3) := by decide +kernel
theorem dX3_solveByDraws_45 : decode cX3_solveByDraws 45 = .ok (.invokestatic 46, 3) := by decide +kernel
theorem dX3_solveByDraws_48 : decode cX3_solveByDraws 48 = .ok (.pop, 1) := by decide +kernel
theorem dX3_solveByDraws_49 : decode cX3_solveByDraws 49 = .ok (.return_, 1) := by decide +kernel
set_option maxRecDepth 20000 in
theorem ggX3_solveFrom_X0_cellCount : GoodIn wsX3_solveFrom wsX0_cellCount := goodIn_r _ [4, 5, 6, 7, 8, 9, 10, 11, 12, 71, 72, 73, 74, 75] (by decide +kernel) (by decide +kernel)
set_option maxRecDepth 20000 in
theorem gX3_solveFrom_X0_cellCount_n15 : GoodIn wsX3_solveFrom (wsX0_cellCount) := ggX3_solveFrom_X0_cellCount
set_option maxRecDepth 20000 in
theorem ggX3_solveFrom_X0_leavesEnough : GoodIn wsX3_solveFrom wsX0_leavesEnough := goodIn_r _ [15, 16, 17, 18, 2, 19, 20, 6, 7, 8, 9, 10, 11, 12, 21, 22, 23, 24, 25, 26, 27, 28, 71, 72, 73, 74, 75] (by decide +kernel) (by decide +kernel)
set_option maxRecDepth 20000 in
theorem gX3_solveFrom_X0_leavesEnough_n25 : GoodIn wsX3_solveFrom (wsX0_leavesEnough) := ggX3_solveFrom_X0_leavesEnough
set_option maxRecDepth 20000 in
theorem ggX3_solveFrom_X0_canTake : GoodIn wsX3_solveFrom wsX0_canTake := goodIn_r _ [31, 25, 26, 27, 2, 28, 16, 17, 18, 19, 20, 32, 33, 34, 35, 36, 37, 38, 39, 40, 41, 42, 43, 44, 45, 46, 47, 48, 49, 50, 51, 52, 53, 54, 55, 56, 57, 58, 59, 60, 5, 6, 7, 8, 9, 10, 11, 12, 61, 62, 63, 64, 65, 66, 67, 71, 72, 73, 74, 75] (by decide +kernel) (by decide +kernel)
set_option maxRecDepth 20000 in
theorem gX3_solveFrom_X0_canTake_n29 : GoodIn wsX3_solveFrom (wsX0_canTake) := ggX3_solveFrom_X0_canTake
set_option maxRecDepth 20000 in
theorem ggX3_solveFrom_X0_write : GoodIn wsX3_solveFrom wsX0_write := goodIn_r _ [41, 20, 35, 36, 2, 37, 71, 72, 73, 74, 75] (by decide +kernel) (by decide +kernel)
set_option maxRecDepth 20000 in
theorem gX3_solveFrom_X0_write_n33 : GoodIn wsX3_solveFrom (wsX0_write) := ggX3_solveFrom_X0_write
set_option maxRecDepth 20000 in
theorem ggX3_solveFrom_X3_solveFrom : GoodIn wsX3_solveFrom wsX3_solveFrom := goodIn_r _ [0, 1, 2, 3, 4, 5, 6, 7, 8, 9, 10, 11, 12, 13, 14, 15, 16, 17, 18, 19, 20, 21, 22, 23, 24, 25, 26, 27, 28, 29, 30, 31, 32, 33, 34, 35, 36, 37, 38, 39, 40, 41, 42, 43, 44, 45, 46, 47, 48, 49, 50, 51, 52, 53, 54, 55, 56, 57, 58, 59, 60, 61, 62, 63, 64, 65, 66, 67, 68, 69, 70, 71, 72, 73, 74, 75] (by decide +kernel) (by decide +kernel)
set_option maxRecDepth 20000 in
theorem gX3_solveFrom_X3_solveFrom : GoodIn wsX3_solveFrom (va_wsS RX3 46 yX3_solveFrom wsX3_solveFrom) := goodIn_app (goodIn_of _ (by decide +kernel)) ggX3_solveFrom_X3_solveFrom
theorem dX3_solveFrom_0 : decode cX3_solveFrom 0 = .ok (.iload_n 1, 1) := by decide +kernel
theorem dX3_solveFrom_1 : decode cX3_solveFrom 1 = .ok (.ifCond .lt 17, 3) := by decide +kernel
theorem dX3_solveFrom_4 : decode cX3_solveFrom 4 = .ok (.iload_n 1, 1) := by decide +kernel
theorem dX3_solveFrom_5 : decode cX3_solveFrom 5 = .ok (.aload_n 0, 1) := by decide +kernel
theorem dX3_solveFrom_6 : decode cX3_solveFrom 6 = .ok (.invokevirtual 15, 3) := by decide +kernel
theorem dX3_solveFrom_9 : decode cX3_solveFrom 9 = .ok (.if_icmp .ge 9, 3) := by decide +kernel
theorem dX3_solveFrom_12 : decode cX3_solveFrom 12 = .ok (.iload_n 1, 1) := by decide +kernel
theorem dX3_solveFrom_13 : decode cX3_solveFrom 13 = .ok (.aload_n 2, 1) := by decide +kernel
theorem dX3_solveFrom_14 : decode cX3_solveFrom 14 = .ok (.arraylength, 1) := by decide +kernel
theorem dX3_solveFrom_15 : decode cX3_solveFrom 15 = .ok (.if_icmp .lt 5, 3) := by decide +kernel
theorem dX3_solveFrom_18 : decode cX3_solveFrom 18 = .ok (.iconst 1, 1) := by decide +kernel
theorem dX3_solveFrom_19 : decode cX3_solveFrom 19 = .ok (.ireturn, 1) := by decide +kernel
theorem dX3_solveFrom_20 : decode cX3_solveFrom 20 = .ok (.aload_n 2, 1) := by decide +kernel
theorem dX3_solveFrom_21 : decode cX3_solveFrom 21 = .ok (.iload_n 1, 1) := by decide +kernel
theorem dX3_solveFrom_22 : decode cX3_solveFrom 22 = .ok (.iaload, 1) := by decide +kernel
theorem dX3_solveFrom_23 : decode cX3_solveFrom 23 = .ok (.istore_n 3, 1) := by decide +kernel
theorem dX3_solveFrom_24 : decode cX3_solveFrom 24 = .ok (.iconst 0, 1) := by decide +kernel
theorem dX3_solveFrom_25 : decode cX3_solveFrom 25 = .ok (.istore 4, 2) := by decide +kernel
theorem dX3_solveFrom_27 : decode cX3_solveFrom 27 = .ok (.iload 4, 2) := by decide +kernel
theorem dX3_solveFrom_29 : decode cX3_solveFrom 29 = .ok (.bipush 9, 2) := by decide +kernel
theorem dX3_solveFrom_31 : decode cX3_solveFrom 31 = .ok (.if_icmp .ge 65, 3) := by decide +kernel
theorem dX3_solveFrom_34 : decode cX3_solveFrom 34 = .ok (.aload_n 0, 1) := by decide +kernel
theorem dX3_solveFrom_35 : decode cX3_solveFrom 35 = .ok (.iload_n 3, 1) := by decide +kernel
theorem dX3_solveFrom_36 : decode cX3_solveFrom 36 = .ok (.invokevirtual 25, 3) := by decide +kernel
theorem dX3_solveFrom_39 : decode cX3_solveFrom 39 = .ok (.ifCond .eq 37, 3) := by decide +kernel
theorem dX3_solveFrom_42 : decode cX3_solveFrom 42 = .ok (.aload_n 0, 1) := by decide +kernel
theorem dX3_solveFrom_43 : decode cX3_solveFrom 43 = .ok (.iload_n 1, 1) := by decide +kernel
theorem dX3_solveFrom_44 : decode cX3_solveFrom 44 = .ok (.iload_n 3, 1) := by decide +kernel
theorem dX3_solveFrom_45 : decode cX3_solveFrom 45 = .ok (.invokevirtual 29, 3) := by decide +kernel
theorem dX3_solveFrom_48 : decode cX3_solveFrom 48 = .ok (.ifCond .eq 28, 3) := by decide +kernel
theorem dX3_solveFrom_51 : decode cX3_solveFrom 51 = .ok (.aload_n 0, 1) := by decide +kernel
theorem dX3_solveFrom_52 : decode cX3_solveFrom 52 = .ok (.iload_n 1, 1) := by decide +kernel
theorem dX3_solveFrom_53 : decode cX3_solveFrom 53 = .ok (.iload_n 3, 1) := by decide +kernel
theorem dX3_solveFrom_54 : decode cX3_solveFrom 54 = .ok (.invokevirtual 33, 3) := by decide +kernel
theorem dX3_solveFrom_57 : decode cX3_solveFrom 57 = .ok (.aload_n 0, 1) := by decide +kernel
theorem dX3_solveFrom_58 : decode cX3_solveFrom 58 = .ok (.iload_n 1, 1) := by decide +kernel
theorem dX3_solveFrom_59 : decode cX3_solveFrom 59 = .ok (.iconst 1, 1) := by decide +kernel
theorem dX3_solveFrom_60 : decode cX3_solveFrom 60 = .ok (.iadd, 1) := by decide +kernel
theorem dX3_solveFrom_61 : decode cX3_solveFrom 61 = .ok (.aload_n 2, 1) := by decide +kernel
theorem dX3_solveFrom_62 : decode cX3_solveFrom 62 = .ok (.invokestatic 46, 3) := by decide +kernel
theorem dX3_solveFrom_65 : decode cX3_solveFrom 65 = .ok (.ifCond .eq 5, 3) := by decide +kernel
theorem dX3_solveFrom_68 : decode cX3_solveFrom 68 = .ok (.iconst 1, 1) := by decide +kernel
theorem dX3_solveFrom_69 : decode cX3_solveFrom 69 = .ok (.ireturn, 1) := by decide +kernel
theorem dX3_solveFrom_70 : decode cX3_solveFrom 70 = .ok (.aload_n 0, 1) := by decide +kernel
theorem dX3_solveFrom_71 : decode cX3_solveFrom 71 = .ok (.iload_n 1, 1) := by decide +kernel
theorem dX3_solveFrom_72 : decode cX3_solveFrom 72 = .ok (.iconst 0, 1) := by decide +kernel
theorem dX3_solveFrom_73 : decode cX3_solveFrom 73 = .ok (.invokevirtual 33, 3) := by decide +kernel
theorem dX3_solveFrom_76 : decode cX3_solveFrom 76 = .ok (.iload_n 3, 1) := by decide +kernel
theorem dX3_solveFrom_77 : decode cX3_solveFrom 77 = .ok (.bipush 9, 2) := by decide +kernel
theorem dX3_solveFrom_79 : decode cX3_solveFrom 79 = .ok (.if_icmp .ne 7, 3) := by decide +kernel
theorem dX3_solveFrom_82 : decode cX3_solveFrom 82 = .ok (.iconst 1, 1) := by decide +kernel
theorem dX3_solveFrom_83 : decode cX3_solveFrom 83 = .ok (.goto 6, 3) := by decide +kernel
theorem dX3_solveFrom_86 : decode cX3_solveFrom 86 = .ok (.iload_n 3, 1) := by decide +kernel
theorem dX3_solveFrom_87 : decode cX3_solveFrom 87 = .ok (.iconst 1, 1) := by decide +kernel
theorem dX3_solveFrom_88 : decode cX3_solveFrom 88 = .ok (.iadd, 1) := by decide +kernel
theorem dX3_solveFrom_89 : decode cX3_solveFrom 89 = .ok (.istore_n 3, 1) := by decide +kernel
theorem dX3_solveFrom_90 : decode cX3_solveFrom 90 = .ok (.iinc 4 1, 3) := by decide +kernel
theorem dX3_solveFrom_93 : decode cX3_solveFrom 93 = .ok (.goto (-66), 3) := by decide +kernel
theorem dX3_solveFrom_96 : decode cX3_solveFrom 96 = .ok (.iconst 0, 1) := by decide +kernel
theorem dX3_solveFrom_97 : decode cX3_solveFrom 97 = .ok (.ireturn, 1) := by decide +kernel
set_option maxRecDepth 20000 in
theorem ggX4_init_X0_init : GoodIn wsX4_init wsX0_init := goodIn_r _ [21, 22, 2, 3, 9, 23, 24, 25, 26, 6, 27, 28, 29, 30, 31, 32, 33, 34, 35, 36, 37, 38, 49, 50, 51, 52, 53] (by decide +kernel) (by decide +kernel)
set_option maxRecDepth 20000 in
theorem gX4_init_X0_init_n9 : GoodIn wsX4_init (wsX0_init) := ggX4_init_X0_init
set_option maxRecDepth 20000 in
theorem ggX4_init_X2_init : GoodIn wsX4_init wsX2_init := goodIn_r _ [40, 41, 2, 3, 9, 42, 43, 44, 60, 61, 62] (by decide +kernel) (by decide +kernel)
set_option maxRecDepth 20000 in
theorem gX4_init_X2_init_n31 : GoodIn wsX4_init (wsX2_init) := ggX4_init_X2_init
set_option maxRecDepth 20000 in
theorem ggX4_init_X3_init : GoodIn wsX4_init wsX3_init := goodIn_r _ [46, 47, 2, 3, 9, 48, 63] (by decide +kernel) (by decide +kernel)
set_option maxRecDepth 20000 in
theorem gX4_init_X3_init_n38 : GoodIn wsX4_init (wsX3_init) := ggX4_init_X3_init
theorem dX4_init_0 : decode cX4_init 0 = .ok (.aload_n 0, 1) := by decide +kernel
theorem dX4_init_1 : decode cX4_init 1 = .ok (.invokespecial 1, 3) := by decide +kernel
theorem dX4_init_4 : decode cX4_init 4 = .ok (.aload_n 0, 1) := by decide +kernel
theorem dX4_init_5 : decode cX4_init 5 = .ok (.new 7, 3) := by decide +kernel
theorem dX4_init_8 : decode cX4_init 8 = .ok (.dup, 1) := by decide +kernel
theorem dX4_init_9 : decode cX4_init 9 = .ok (.iconst 3, 1) := by decide +kernel
theorem dX4_init_10 : decode cX4_init 10 = .ok (.iconst 3, 1) := by decide +kernel
theorem dX4_init_11 : decode cX4_init 11 = .ok (.invokespecial 9, 3) := by decide +kernel
theorem dX4_init_14 : decode cX4_init 14 = .ok (.putfield 12, 3) := by decide +kernel
theorem dX4_init_17 : decode cX4_init 17 = .ok (.aload_n 0, 1) := by decide +kernel
theorem dX4_init_18 : decode cX4_init 18 = .ok (.new 7, 3) := by decide +kernel
theorem dX4_init_21 : decode cX4_init 21 = .ok (.dup, 1) := by decide +kernel
theorem dX4_init_22 : decode cX4_init 22 = .ok (.iconst 3, 1) := by decide +kernel
theorem dX4_init_23 : decode cX4_init 23 = .ok (.iconst 3, 1) := by decide +kernel
theorem dX4_init_24 : decode cX4_init 24 = .ok (.invokespecial 9, 3) := by decide +kernel
theorem dX4_init_27 : decode cX4_init 27 = .ok (.putfield 18, 3) := by decide +kernel
theorem dX4_init_30 : decode cX4_init 30 = .ok (.aload_n 0, 1) := by decide +kernel
theorem dX4_init_31 : decode cX4_init 31 = .ok (.bipush 12, 2) := by decide +kernel
theorem dX4_init_33 : decode cX4_init 33 = .ok (.newarray .int, 2) := by decide +kernel
theorem dX4_init_35 : decode cX4_init 35 = .ok (.putfield 21, 3) := by decide +kernel
theorem dX4_init_38 : decode cX4_init 38 = .ok (.aload_n 0, 1) := by decide +kernel
theorem dX4_init_39 : decode cX4_init 39 = .ok (.iconst 0, 1) := by decide +kernel
theorem dX4_init_40 : decode cX4_init 40 = .ok (.putfield 25, 3) := by decide +kernel
theorem dX4_init_43 : decode cX4_init 43 = .ok (.aload_n 0, 1) := by decide +kernel
theorem dX4_init_44 : decode cX4_init 44 = .ok (.new 29, 3) := by decide +kernel
theorem dX4_init_47 : decode cX4_init 47 = .ok (.dup, 1) := by decide +kernel
theorem dX4_init_48 : decode cX4_init 48 = .ok (.invokespecial 31, 3) := by decide +kernel
theorem dX4_init_51 : decode cX4_init 51 = .ok (.putfield 32, 3) := by decide +kernel
theorem dX4_init_54 : decode cX4_init 54 = .ok (.aload_n 0, 1) := by decide +kernel
theorem dX4_init_55 : decode cX4_init 55 = .ok (.new 36, 3) := by decide +kernel
theorem dX4_init_58 : decode cX4_init 58 = .ok (.dup, 1) := by decide +kernel
theorem dX4_init_59 : decode cX4_init 59 = .ok (.invokespecial 38, 3) := by decide +kernel
theorem dX4_init_62 : decode cX4_init 62 = .ok (.putfield 39, 3) := by decide +kernel
theorem dX4_init_65 : decode cX4_init 65 = .ok (.return_, 1) := by decide +kernel
set_option maxRecDepth 20000 in
theorem ggX4_lay_X4_isSide : GoodIn wsX4_lay wsX4_isSide := goodIn_r _ [8] (by decide +kernel) (by decide +kernel)
set_option maxRecDepth 20000 in
theorem gX4_lay_X4_isSide : GoodIn wsX4_lay (va_wsS RX4 43 yX4_isSide wsX4_isSide) := goodIn_app (goodIn_of _ (by decide +kernel)) ggX4_lay_X4_isSide
set_option maxRecDepth 20000 in
theorem ggX4_lay_X0_layOut : GoodIn wsX4_lay wsX0_layOut := goodIn_r _ [12, 13, 14, 15, 16, 17, 18, 10, 19, 20, 21, 22, 23, 24, 49, 50, 51, 52, 53] (by decide +kernel) (by decide +kernel)
set_option maxRecDepth 20000 in
theorem gX4_lay_X0_layOut_n54 : GoodIn wsX4_lay (wsX0_layOut) := ggX4_lay_X0_layOut
set_option maxRecDepth 20000 in
theorem ggX4_lay_X4_showCluesAlone : GoodIn wsX4_lay wsX4_showCluesAlone := goodIn_r _ [28, 4, 3, 29, 30, 10, 31, 32, 13, 14, 15, 16, 24, 43, 44, 45, 46, 47, 48, 49, 50, 51, 52, 53] (by decide +kernel) (by decide +kernel)
set_option maxRecDepth 20000 in
theorem gX4_lay_X4_showCluesAlone : GoodIn wsX4_lay (wsV RX4 57 RX4 yX4_showCluesAlone wsX4_showCluesAlone) := goodIn_app (goodIn_of _ (by decide +kernel)) ggX4_lay_X4_showCluesAlone
set_option maxRecDepth 20000 in
theorem ggX4_lay_X0_cellCount : GoodIn wsX4_lay wsX0_cellCount := goodIn_r _ [35, 14, 36, 37, 38, 39, 40, 41, 42, 49, 50, 51, 52, 53] (by decide +kernel) (by decide +kernel)
set_option maxRecDepth 20000 in
theorem gX4_lay_X0_cellCount_n60 : GoodIn wsX4_lay (wsX0_cellCount) := ggX4_lay_X0_cellCount
theorem dX4_lay_0 : decode cX4_lay 0 = .ok (.iload_n 1, 1) := by decide +kernel
theorem dX4_lay_1 : decode cX4_lay 1 = .ok (.invokestatic 43, 3) := by decide +kernel
theorem dX4_lay_4 : decode cX4_lay 4 = .ok (.ifCond .eq 18, 3) := by decide +kernel
theorem dX4_lay_7 : decode cX4_lay 7 = .ok (.iload_n 2, 1) := by decide +kernel
theorem dX4_lay_8 : decode cX4_lay 8 = .ok (.invokestatic 43, 3) := by decide +kernel
theorem dX4_lay_11 : decode cX4_lay 11 = .ok (.ifCond .eq 11, 3) := by decide +kernel
theorem dX4_lay_14 : decode cX4_lay 14 = .ok (.iload_n 1, 1) := by decide +kernel
theorem dX4_lay_15 : decode cX4_lay 15 = .ok (.iload_n 2, 1) := by decide +kernel
theorem dX4_lay_16 : decode cX4_lay 16 = .ok (.imul, 1) := by decide +kernel
theorem dX4_lay_17 : decode cX4_lay 17 = .ok (.bipush 12, 2) := by decide +kernel
theorem dX4_lay_19 : decode cX4_lay 19 = .ok (.if_icmp .le 13, 3) := by decide +kernel
theorem dX4_lay_22 : decode cX4_lay 22 = .ok (.new 47, 3) := by decide +kernel
theorem dX4_lay_25 : decode cX4_lay 25 = .ok (.dup, 1) := by decide +kernel
theorem dX4_lay_26 : decode cX4_lay 26 = .ok (.ldc 49, 2) := by decide +kernel
theorem dX4_lay_28 : decode cX4_lay 28 = .ok (.invokespecial 51, 3) := by decide +kernel
theorem dX4_lay_31 : decode cX4_lay 31 = .ok (.athrow, 1) := by decide +kernel
theorem dX4_lay_32 : decode cX4_lay 32 = .ok (.aload_n 0, 1) := by decide +kernel
theorem dX4_lay_33 : decode cX4_lay 33 = .ok (.getfield 12, 3) := by decide +kernel
theorem dX4_lay_36 : decode cX4_lay 36 = .ok (.iload_n 1, 1) := by decide +kernel
theorem dX4_lay_37 : decode cX4_lay 37 = .ok (.iload_n 2, 1) := by decide +kernel
theorem dX4_lay_38 : decode cX4_lay 38 = .ok (.invokevirtual 54, 3) := by decide +kernel
theorem dX4_lay_41 : decode cX4_lay 41 = .ok (.aload_n 0, 1) := by decide +kernel
theorem dX4_lay_42 : decode cX4_lay 42 = .ok (.invokevirtual 57, 3) := by decide +kernel
theorem dX4_lay_45 : decode cX4_lay 45 = .ok (.aload_n 0, 1) := by decide +kernel
theorem dX4_lay_46 : decode cX4_lay 46 = .ok (.getfield 18, 3) := by decide +kernel
theorem dX4_lay_49 : decode cX4_lay 49 = .ok (.invokevirtual 60, 3) := by decide +kernel
theorem dX4_lay_52 : decode cX4_lay 52 = .ok (.ireturn, 1) := by decide +kernel
set_option maxRecDepth 20000 in
theorem ggX4_clue_X4_requireCell : GoodIn wsX4_clue wsX4_requireCell := goodIn_ca (goodIn_r _ [8, 9, 10, 11, 12, 13, 14, 15, 16, 17, 18, 19, 20, 21, 22, 23, 83, 84, 85, 86, 87, 88, 89, 90, 91, 92, 93] (by decide +kernel) (by decide +kernel)) (goodIn_sub (fun _ h => List.mem_cons_of_mem _ (List.mem_append_left _ (List.mem_append_right _ h))) (by decide +kernel))
set_option maxRecDepth 20000 in
theorem gX4_clue_X4_requireCell : GoodIn wsX4_clue (wsV RX4 64 RX4 yX4_requireCell wsX4_requireCell) := goodIn_app (goodIn_of _ (by decide +kernel)) ggX4_clue_X4_requireCell
set_option maxRecDepth 20000 in
theorem ggX4_clue_X4_requireNumber : GoodIn wsX4_clue wsX4_requireNumber := goodIn_ca (goodIn_r _ [26, 27, 28] (by decide +kernel) (by decide +kernel)) (goodIn_sub (fun _ h => List.mem_cons_of_mem _ (List.mem_append_right _ h)) (by decide +kernel))
set_option maxRecDepth 20000 in
theorem gX4_clue_X4_requireNumber : GoodIn wsX4_clue (va_wsS RX4 68 yX4_requireNumber wsX4_requireNumber) := goodIn_app (goodIn_of _ (by decide +kernel)) ggX4_clue_X4_requireNumber
set_option maxRecDepth 20000 in
theorem ggX4_clue_X0_numberIn : GoodIn wsX4_clue wsX0_numberIn := goodIn_r _ [31, 32, 33, 34, 13, 35, 36, 37, 38, 89, 90, 91, 92, 93] (by decide +kernel) (by decide +kernel)
set_option maxRecDepth 20000 in
theorem gX4_clue_X0_numberIn_n71 : GoodIn wsX4_clue (wsX0_numberIn) := ggX4_clue_X0_numberIn
set_option maxRecDepth 20000 in
theorem ggX4_clue_X0_write : GoodIn wsX4_clue wsX0_write := goodIn_r _ [41, 32, 36, 37, 13, 38, 89, 90, 91, 92, 93] (by decide +kernel) (by decide +kernel)
set_option maxRecDepth 20000 in
theorem gX4_clue_X0_write_n75 : GoodIn wsX4_clue (wsX0_write) := ggX4_clue_X0_write
set_option maxRecDepth 20000 in
theorem ggX4_clue_X0_isSound : GoodIn wsX4_clue wsX0_isSound := goodIn_r _ [44, 45, 46, 47, 13, 48, 49, 50, 51, 52, 32, 53, 54, 55, 56, 57, 58, 59, 60, 61, 62, 63, 64, 65, 66, 16, 17, 18, 19, 20, 21, 22, 23, 67, 68, 69, 70, 71, 72, 73, 74, 89, 90, 91, 92, 93] (by decide +kernel) (by decide +kernel)
set_option maxRecDepth 20000 in
theorem gX4_clue_X0_isSound_n78 : GoodIn wsX4_clue (wsX0_isSound) := ggX4_clue_X0_isSound
set_option maxRecDepth 20000 in
theorem ggX4_clue_X4_showCluesAlone : GoodIn wsX4_clue wsX4_showCluesAlone := goodIn_r _ [78, 11, 3, 79, 80, 13, 81, 82, 66, 16, 64, 65, 32, 83, 84, 85, 86, 87, 88, 89, 90, 91, 92, 93] (by decide +kernel) (by decide +kernel)
set_option maxRecDepth 20000 in
theorem gX4_clue_X4_showCluesAlone : GoodIn wsX4_clue (wsV RX4 57 RX4 yX4_showCluesAlone wsX4_showCluesAlone) := goodIn_app (goodIn_of _ (by decide +kernel)) ggX4_clue_X4_showCluesAlone
theorem dX4_clue_0 : decode cX4_clue 0 = .ok (.aload_n 0, 1) := by decide +kernel
theorem dX4_clue_1 : decode cX4_clue 1 = .ok (.iload_n 1, 1) := by decide +kernel
theorem dX4_clue_2 : decode cX4_clue 2 = .ok (.invokevirtual 64, 3) := by decide +kernel
theorem dX4_clue_5 : decode cX4_clue 5 = .ok (.iload_n 2, 1) := by decide +kernel
theorem dX4_clue_6 : decode cX4_clue 6 = .ok (.ifCond .eq 7, 3) := by decide +kernel
theorem dX4_clue_9 : decode cX4_clue 9 = .ok (.iload_n 2, 1) := by decide +kernel
theorem dX4_clue_10 : decode cX4_clue 10 = .ok (.invokestatic 68, 3) := by decide +kernel
theorem dX4_clue_13 : decode cX4_clue 13 = .ok (.aload_n 0, 1) := by decide +kernel
theorem dX4_clue_14 : decode cX4_clue 14 = .ok (.getfield 12, 3) := by decide +kernel
theorem dX4_clue_17 : decode cX4_clue 17 = .ok (.iload_n 1, 1) := by decide +kernel
theorem dX4_clue_18 : decode cX4_clue 18 = .ok (.invokevirtual 71, 3) := by decide +kernel
theorem dX4_clue_21 : decode cX4_clue 21 = .ok (.istore_n 3, 1) := by decide +kernel
theorem dX4_clue_22 : decode cX4_clue 22 = .ok (.aload_n 0, 1) := by decide +kernel
theorem dX4_clue_23 : decode cX4_clue 23 = .ok (.getfield 12, 3) := by decide +kernel
theorem dX4_clue_26 : decode cX4_clue 26 = .ok (.iload_n 1, 1) := by decide +kernel
theorem dX4_clue_27 : decode cX4_clue 27 = .ok (.iload_n 2, 1) := by decide +kernel
theorem dX4_clue_28 : decode cX4_clue 28 = .ok (.invokevirtual 75, 3) := by decide +kernel
theorem dX4_clue_31 : decode cX4_clue 31 = .ok (.aload_n 0, 1) := by decide +kernel
theorem dX4_clue_32 : decode cX4_clue 32 = .ok (.getfield 12, 3) := by decide +kernel
theorem dX4_clue_35 : decode cX4_clue 35 = .ok (.invokevirtual 78, 3) := by decide +kernel
theorem dX4_clue_38 : decode cX4_clue 38 = .ok (.ifCond .ne 22, 3) := by decide +kernel
theorem dX4_clue_41 : decode cX4_clue 41 = .ok (.aload_n 0, 1) := by decide +kernel
theorem dX4_clue_42 : decode cX4_clue 42 = .ok (.getfield 12, 3) := by decide +kernel
theorem dX4_clue_45 : decode cX4_clue 45 = .ok (.iload_n 1, 1) := by decide +kernel
theorem dX4_clue_46 : decode cX4_clue 46 = .ok (.iload_n 3, 1) := by decide +kernel
theorem dX4_clue_47 : decode cX4_clue 47 = .ok (.invokevirtual 75, 3) := by decide +kernel
theorem dX4_clue_50 : decode cX4_clue 50 = .ok (.new 82, 3) := by decide +kernel
theorem dX4_clue_53 : decode cX4_clue 53 = .ok (.dup, 1) := by decide +kernel
theorem dX4_clue_54 : decode cX4_clue 54 = .ok (.ldc 84, 2) := by decide +kernel
theorem dX4_clue_56 : decode cX4_clue 56 = .ok (.invokespecial 86, 3) := by decide +kernel
theorem dX4_clue_59 : decode cX4_clue 59 = .ok (.athrow, 1) := by decide +kernel
theorem dX4_clue_60 : decode cX4_clue 60 = .ok (.aload_n 0, 1) := by decide +kernel
theorem dX4_clue_61 : decode cX4_clue 61 = .ok (.invokevirtual 57, 3) := by decide +kernel
theorem dX4_clue_64 : decode cX4_clue 64 = .ok (.iload_n 3, 1) := by decide +kernel
theorem dX4_clue_65 : decode cX4_clue 65 = .ok (.ireturn, 1) := by decide +kernel
set_option maxRecDepth 20000 in
theorem ggX4_make_X1_init : GoodIn wsX4_make wsX1_init := goodIn_r _ [9, 10, 11, 12, 13, 117] (by decide +kernel) (by decide +kernel)
set_option maxRecDepth 20000 in
theorem gX4_make_X1_init_n91 : GoodIn wsX4_make (wsX1_init) := ggX4_make_X1_init
set_option maxRecDepth 20000 in
theorem ggX4_make_X0_empty : GoodIn wsX4_make wsX0_empty := goodIn_r _ [17, 18, 19, 124, 125, 126, 127, 128] (by decide +kernel) (by decide +kernel)
set_option maxRecDepth 20000 in
theorem gX4_make_X0_empty_n93 : GoodIn wsX4_make (wsX0_empty) := ggX4_make_X0_empty
set_option maxRecDepth 20000 in
theorem ggX4_make_X3_solveByDraws : GoodIn wsX4_make wsX3_solveByDraws := goodIn_r _ [23, 24, 25, 15, 26, 27, 19, 28, 29, 30, 31, 32, 33, 34, 35, 5, 36, 37, 13, 38, 39, 40, 41, 42, 43, 21, 44, 45, 46, 47, 48, 49, 50, 51, 18, 52, 53, 54, 55, 56, 57, 58, 59, 60, 61, 62, 63, 64, 65, 66, 67, 68, 69, 70, 71, 72, 73, 74, 75, 76, 77, 78, 79, 80, 81, 82, 83, 84, 85, 86, 87, 88, 89, 90, 91, 92, 93, 94, 95, 96, 97, 98, 129, 124, 125, 126, 127, 128, 117] (by decide +kernel) (by decide +kernel)
set_option maxRecDepth 20000 in
theorem gX4_make_X3_solveByDraws_n96 : GoodIn wsX4_make (wsX3_solveByDraws) := ggX4_make_X3_solveByDraws
set_option maxRecDepth 20000 in
theorem ggX4_make_X0_cellCount : GoodIn wsX4_make wsX0_cellCount := goodIn_r _ [27, 19, 28, 29, 30, 31, 32, 33, 34, 124, 125, 126, 127, 128] (by decide +kernel) (by decide +kernel)
set_option maxRecDepth 20000 in
theorem gX4_make_X0_cellCount_n60 : GoodIn wsX4_make (wsX0_cellCount) := ggX4_make_X0_cellCount
set_option maxRecDepth 20000 in
theorem ggX4_make_X1_nextBelow : GoodIn wsX4_make wsX1_nextBelow := goodIn_r _ [37, 13, 38, 39, 40, 41, 117] (by decide +kernel) (by decide +kernel)
set_option maxRecDepth 20000 in
theorem gX4_make_X1_nextBelow_n100 : GoodIn wsX4_make (wsX1_nextBelow) := ggX4_make_X1_nextBelow
set_option maxRecDepth 20000 in
theorem ggX4_make_X4_takeIfNotNeeded : GoodIn wsX4_make wsX4_takeIfNotNeeded := goodIn_r _ [103, 6, 78, 15, 79, 80, 18, 63, 64, 65, 66, 67, 68, 70, 71, 72, 104, 21, 105, 25, 26, 27, 19, 28, 29, 30, 31, 32, 33, 34, 45, 46, 47, 48, 49, 50, 51, 52, 53, 54, 55, 56, 57, 58, 59, 60, 61, 62, 69, 73, 74, 75, 76, 77, 81, 82, 83, 84, 85, 86, 87, 88, 89, 90, 91, 92, 93, 94, 95, 96, 97, 98, 106, 118, 119, 120, 121, 122, 123, 124, 125, 126, 127, 128] (by decide +kernel) (by decide +kernel)
set_option maxRecDepth 20000 in
theorem gX4_make_X4_takeIfNotNeeded : GoodIn wsX4_make (wsV RX4 103 RX4 yX4_takeIfNotNeeded wsX4_takeIfNotNeeded) := goodIn_app (goodIn_of _ (by decide +kernel)) ggX4_make_X4_takeIfNotNeeded
set_option maxRecDepth 20000 in
theorem ggX4_make_X4_showCluesAlone : GoodIn wsX4_make wsX4_showCluesAlone := goodIn_r _ [110, 111, 6, 112, 113, 15, 114, 115, 91, 19, 89, 90, 18, 118, 119, 120, 121, 122, 123, 124, 125, 126, 127, 128] (by decide +kernel) (by decide +kernel)
set_option maxRecDepth 20000 in
theorem gX4_make_X4_showCluesAlone : GoodIn wsX4_make (wsV RX4 57 RX4 yX4_showCluesAlone wsX4_showCluesAlone) := goodIn_app (goodIn_of _ (by decide +kernel)) ggX4_make_X4_showCluesAlone
set_option maxRecDepth 20000 in
theorem ggX4_make_X0_emptyCells : GoodIn wsX4_make wsX0_emptyCells := goodIn_r _ [59, 48, 49, 50, 15, 51, 18, 124, 125, 126, 127, 128] (by decide +kernel) (by decide +kernel)
set_option maxRecDepth 20000 in
theorem gX4_make_X0_emptyCells_n106 : GoodIn wsX4_make (wsX0_emptyCells) := ggX4_make_X0_emptyCells
set_option maxRecDepth 20000 in
theorem ggX4_make_J6_bitCount_0f7a4 : GoodIn wsX4_make wsJ6_bitCount_0f7a4 := goodIn_r _ [31, 32, 33, 34] (by decide +kernel) (by decide +kernel)
set_option maxRecDepth 20000 in
theorem gX4_make_J6_bitCount_0f7a4 : GoodIn wsX4_make (va_wsS RX4 109 yJ6_bitCount_0f7a4 wsJ6_bitCount_0f7a4) := goodIn_app (goodIn_of _ (by decide +kernel)) ggX4_make_J6_bitCount_0f7a4
theorem dX4_make_0 : decode cX4_make 0 = .ok (.iload_n 1, 1) := by decide +kernel
theorem dX4_make_1 : decode cX4_make 1 = .ok (.ifCond .ge 13, 3) := by decide +kernel
theorem dX4_make_4 : decode cX4_make 4 = .ok (.new 47, 3) := by decide +kernel
theorem dX4_make_7 : decode cX4_make 7 = .ok (.dup, 1) := by decide +kernel
theorem dX4_make_8 : decode cX4_make 8 = .ok (.ldc 87, 2) := by decide +kernel
theorem dX4_make_10 : decode cX4_make 10 = .ok (.invokespecial 51, 3) := by decide +kernel
theorem dX4_make_13 : decode cX4_make 13 = .ok (.athrow, 1) := by decide +kernel
theorem dX4_make_14 : decode cX4_make 14 = .ok (.new 89, 3) := by decide +kernel
theorem dX4_make_17 : decode cX4_make 17 = .ok (.dup, 1) := by decide +kernel
theorem dX4_make_18 : decode cX4_make 18 = .ok (.iload_n 1, 1) := by decide +kernel
theorem dX4_make_19 : decode cX4_make 19 = .ok (.invokespecial 91, 3) := by decide +kernel
theorem dX4_make_22 : decode cX4_make 22 = .ok (.astore_n 2, 1) := by decide +kernel
theorem dX4_make_23 : decode cX4_make 23 = .ok (.aload_n 0, 1) := by decide +kernel
theorem dX4_make_24 : decode cX4_make 24 = .ok (.getfield 12, 3) := by decide +kernel
theorem dX4_make_27 : decode cX4_make 27 = .ok (.invokevirtual 93, 3) := by decide +kernel
theorem dX4_make_30 : decode cX4_make 30 = .ok (.aload_n 0, 1) := by decide +kernel
theorem dX4_make_31 : decode cX4_make 31 = .ok (.getfield 39, 3) := by decide +kernel
theorem dX4_make_34 : decode cX4_make 34 = .ok (.aload_n 0, 1) := by decide +kernel
theorem dX4_make_35 : decode cX4_make 35 = .ok (.getfield 12, 3) := by decide +kernel
theorem dX4_make_38 : decode cX4_make 38 = .ok (.aload_n 2, 1) := by decide +kernel
theorem dX4_make_39 : decode cX4_make 39 = .ok (.invokevirtual 96, 3) := by decide +kernel
theorem dX4_make_42 : decode cX4_make 42 = .ok (.aload_n 0, 1) := by decide +kernel
theorem dX4_make_43 : decode cX4_make 43 = .ok (.getfield 12, 3) := by decide +kernel
theorem dX4_make_46 : decode cX4_make 46 = .ok (.invokevirtual 60, 3) := by decide +kernel
theorem dX4_make_49 : decode cX4_make 49 = .ok (.istore_n 3, 1) := by decide +kernel
theorem dX4_make_50 : decode cX4_make 50 = .ok (.iconst 0, 1) := by decide +kernel
theorem dX4_make_51 : decode cX4_make 51 = .ok (.istore 4, 2) := by decide +kernel
theorem dX4_make_53 : decode cX4_make 53 = .ok (.iload 4, 2) := by decide +kernel
theorem dX4_make_55 : decode cX4_make 55 = .ok (.iload_n 3, 1) := by decide +kernel
theorem dX4_make_56 : decode cX4_make 56 = .ok (.if_icmp .ge 18, 3) := by decide +kernel
theorem dX4_make_59 : decode cX4_make 59 = .ok (.aload_n 0, 1) := by decide +kernel
theorem dX4_make_60 : decode cX4_make 60 = .ok (.aload_n 2, 1) := by decide +kernel
theorem dX4_make_61 : decode cX4_make 61 = .ok (.iload_n 3, 1) := by decide +kernel
theorem dX4_make_62 : decode cX4_make 62 = .ok (.invokevirtual 100, 3) := by decide +kernel
theorem dX4_make_65 : decode cX4_make 65 = .ok (.invokevirtual 103, 3) := by decide +kernel
theorem dX4_make_68 : decode cX4_make 68 = .ok (.iinc 4 1, 3) := by decide +kernel
theorem dX4_make_71 : decode cX4_make 71 = .ok (.goto (-18), 3) := by decide +kernel
theorem dX4_make_74 : decode cX4_make 74 = .ok (.aload_n 0, 1) := by decide +kernel
theorem dX4_make_75 : decode cX4_make 75 = .ok (.invokevirtual 57, 3) := by decide +kernel
theorem dX4_make_78 : decode cX4_make 78 = .ok (.iload_n 3, 1) := by decide +kernel
theorem dX4_make_79 : decode cX4_make 79 = .ok (.aload_n 0, 1) := by decide +kernel
theorem dX4_make_80 : decode cX4_make 80 = .ok (.getfield 12, 3) := by decide +kernel
theorem dX4_make_83 : decode cX4_make 83 = .ok (.invokevirtual 106, 3) := by decide +kernel
theorem dX4_make_86 : decode cX4_make 86 = .ok (.invokestatic 109, 3) := by decide +kernel
theorem dX4_make_89 : decode cX4_make 89 = .ok (.isub, 1) := by decide +kernel
theorem dX4_make_90 : decode cX4_make 90 = .ok (.ireturn, 1) := by decide +kernel
set_option maxRecDepth 20000 in
theorem ggX4_fill_X4_requireCell : GoodIn wsX4_fill wsX4_requireCell := goodIn_ca (goodIn_r _ [8, 9, 10, 3, 11, 12, 13, 14, 15, 16, 17, 18, 19, 20, 21, 22, 83, 84, 85, 86, 87, 88, 89, 90, 91, 92, 93] (by decide +kernel) (by decide +kernel)) (goodIn_sub (fun _ h => List.mem_cons_of_mem _ (List.mem_append_left _ (List.mem_append_right _ h))) (by decide +kernel))
set_option maxRecDepth 20000 in
theorem gX4_fill_X4_requireCell : GoodIn wsX4_fill (wsV RX4 64 RX4 yX4_requireCell wsX4_requireCell) := goodIn_app (goodIn_of _ (by decide +kernel)) ggX4_fill_X4_requireCell
set_option maxRecDepth 20000 in
theorem ggX4_fill_X4_requireNumber : GoodIn wsX4_fill wsX4_requireNumber := goodIn_ca (goodIn_r _ [25, 26, 27] (by decide +kernel) (by decide +kernel)) (goodIn_sub (fun _ h => List.mem_cons_of_mem _ (List.mem_append_right _ h)) (by decide +kernel))
set_option maxRecDepth 20000 in
theorem gX4_fill_X4_requireNumber : GoodIn wsX4_fill (va_wsS RX4 68 yX4_requireNumber wsX4_requireNumber) := goodIn_app (goodIn_of _ (by decide +kernel)) ggX4_fill_X4_requireNumber
set_option maxRecDepth 20000 in
theorem ggX4_fill_X0_canTake : GoodIn wsX4_fill wsX0_canTake := goodIn_r _ [30, 31, 32, 33, 12, 34, 35, 36, 37, 38, 39, 40, 41, 42, 43, 44, 45, 46, 47, 48, 49, 50, 51, 52, 53, 54, 55, 56, 57, 58, 59, 60, 61, 62, 63, 64, 65, 66, 67, 68, 15, 16, 17, 18, 19, 20, 21, 22, 69, 70, 71, 72, 73, 74, 75, 89, 90, 91, 92, 93] (by decide +kernel) (by decide +kernel)
set_option maxRecDepth 20000 in
theorem gX4_fill_X0_canTake_n114 : GoodIn wsX4_fill (wsX0_canTake) := ggX4_fill_X0_canTake
set_option maxRecDepth 20000 in
theorem ggX4_fill_X4_putAndLog : GoodIn wsX4_fill wsX4_putAndLog := goodIn_r _ [79, 80, 81, 3, 47, 12, 48, 49, 39, 43, 44, 45, 83, 84, 85, 86, 87, 88, 89, 90, 91, 92, 93] (by decide +kernel) (by decide +kernel)
set_option maxRecDepth 20000 in
theorem gX4_fill_X4_putAndLog : GoodIn wsX4_fill (wsV RX4 120 RX4 yX4_putAndLog wsX4_putAndLog) := goodIn_app (goodIn_of _ (by decide +kernel)) ggX4_fill_X4_putAndLog
set_option maxRecDepth 20000 in
theorem ggX4_fill_X0_fieldOf : GoodIn wsX4_fill wsX0_fieldOf := goodIn_r _ [53, 54, 55, 56, 12, 57, 39, 40, 41, 42, 43, 44, 45, 35, 36, 37, 38, 58, 59, 60, 61, 62, 63, 64, 65, 66, 67, 68, 15, 89, 90, 91, 92, 93] (by decide +kernel) (by decide +kernel)
set_option maxRecDepth 20000 in
theorem gX4_fill_X0_fieldOf_n123 : GoodIn wsX4_fill (wsX0_fieldOf) := ggX4_fill_X0_fieldOf
set_option maxRecDepth 20000 in
theorem ggX4_fill_J6_bitCount_0f7a4 : GoodIn wsX4_fill wsJ6_bitCount_0f7a4 := goodIn_r _ [19, 20, 21, 22] (by decide +kernel) (by decide +kernel)
set_option maxRecDepth 20000 in
theorem gX4_fill_J6_bitCount_0f7a4 : GoodIn wsX4_fill (va_wsS RX4 109 yJ6_bitCount_0f7a4 wsJ6_bitCount_0f7a4) := goodIn_app (goodIn_of _ (by decide +kernel)) ggX4_fill_J6_bitCount_0f7a4
theorem dX4_fill_0 : decode cX4_fill 0 = .ok (.aload_n 0, 1) := by decide +kernel
theorem dX4_fill_1 : decode cX4_fill 1 = .ok (.iload_n 1, 1) := by decide +kernel
theorem dX4_fill_2 : decode cX4_fill 2 = .ok (.invokevirtual 64, 3) := by decide +kernel
theorem dX4_fill_5 : decode cX4_fill 5 = .ok (.iload_n 2, 1) := by decide +kernel
theorem dX4_fill_6 : decode cX4_fill 6 = .ok (.invokestatic 68, 3) := by decide +kernel
theorem dX4_fill_9 : decode cX4_fill 9 = .ok (.aload_n 0, 1) := by decide +kernel
theorem dX4_fill_10 : decode cX4_fill 10 = .ok (.getfield 18, 3) := by decide +kernel
theorem dX4_fill_13 : decode cX4_fill 13 = .ok (.iload_n 1, 1) := by decide +kernel
theorem dX4_fill_14 : decode cX4_fill 14 = .ok (.iload_n 2, 1) := by decide +kernel
theorem dX4_fill_15 : decode cX4_fill 15 = .ok (.invokevirtual 114, 3) := by decide +kernel
theorem dX4_fill_18 : decode cX4_fill 18 = .ok (.ifCond .ne 13, 3) := by decide +kernel
theorem dX4_fill_21 : decode cX4_fill 21 = .ok (.new 82, 3) := by decide +kernel
theorem dX4_fill_24 : decode cX4_fill 24 = .ok (.dup, 1) := by decide +kernel
theorem dX4_fill_25 : decode cX4_fill 25 = .ok (.ldc 118, 2) := by decide +kernel
theorem dX4_fill_27 : decode cX4_fill 27 = .ok (.invokespecial 86, 3) := by decide +kernel
theorem dX4_fill_30 : decode cX4_fill 30 = .ok (.athrow, 1) := by decide +kernel
theorem dX4_fill_31 : decode cX4_fill 31 = .ok (.aload_n 0, 1) := by decide +kernel
theorem dX4_fill_32 : decode cX4_fill 32 = .ok (.iload_n 1, 1) := by decide +kernel
theorem dX4_fill_33 : decode cX4_fill 33 = .ok (.iload_n 2, 1) := by decide +kernel
theorem dX4_fill_34 : decode cX4_fill 34 = .ok (.invokevirtual 120, 3) := by decide +kernel
theorem dX4_fill_37 : decode cX4_fill 37 = .ok (.aload_n 0, 1) := by decide +kernel
theorem dX4_fill_38 : decode cX4_fill 38 = .ok (.getfield 18, 3) := by decide +kernel
theorem dX4_fill_41 : decode cX4_fill 41 = .ok (.iload_n 1, 1) := by decide +kernel
theorem dX4_fill_42 : decode cX4_fill 42 = .ok (.invokevirtual 123, 3) := by decide +kernel
theorem dX4_fill_45 : decode cX4_fill 45 = .ok (.invokestatic 109, 3) := by decide +kernel
theorem dX4_fill_48 : decode cX4_fill 48 = .ok (.ireturn, 1) := by decide +kernel
set_option maxRecDepth 20000 in
theorem ggX4_undo_X0_write : GoodIn wsX4_undo wsX0_write := goodIn_r _ [9, 10, 11, 12, 7, 13, 20, 21, 22, 23, 24] (by decide +kernel) (by decide +kernel)
set_option maxRecDepth 20000 in
theorem gX4_undo_X0_write_n75 : GoodIn wsX4_undo (wsX0_write) := ggX4_undo_X0_write
theorem dX4_undo_0 : decode cX4_undo 0 = .ok (.aload_n 0, 1) := by decide +kernel
theorem dX4_undo_1 : decode cX4_undo 1 = .ok (.getfield 25, 3) := by decide +kernel
theorem dX4_undo_4 : decode cX4_undo 4 = .ok (.ifCond .le 15, 3) := by decide +kernel
theorem dX4_undo_7 : decode cX4_undo 7 = .ok (.aload_n 0, 1) := by decide +kernel
theorem dX4_undo_8 : decode cX4_undo 8 = .ok (.getfield 25, 3) := by decide +kernel
theorem dX4_undo_11 : decode cX4_undo 11 = .ok (.aload_n 0, 1) := by decide +kernel
theorem dX4_undo_12 : decode cX4_undo 12 = .ok (.getfield 21, 3) := by decide +kernel
theorem dX4_undo_15 : decode cX4_undo 15 = .ok (.arraylength, 1) := by decide +kernel
theorem dX4_undo_16 : decode cX4_undo 16 = .ok (.if_icmp .le 13, 3) := by decide +kernel
theorem dX4_undo_19 : decode cX4_undo 19 = .ok (.new 82, 3) := by decide +kernel
theorem dX4_undo_22 : decode cX4_undo 22 = .ok (.dup, 1) := by decide +kernel
theorem dX4_undo_23 : decode cX4_undo 23 = .ok (.ldc 126, 2) := by decide +kernel
theorem dX4_undo_25 : decode cX4_undo 25 = .ok (.invokespecial 86, 3) := by decide +kernel
theorem dX4_undo_28 : decode cX4_undo 28 = .ok (.athrow, 1) := by decide +kernel
theorem dX4_undo_29 : decode cX4_undo 29 = .ok (.aload_n 0, 1) := by decide +kernel
theorem dX4_undo_30 : decode cX4_undo 30 = .ok (.dup, 1) := by decide +kernel
theorem dX4_undo_31 : decode cX4_undo 31 = .ok (.getfield 25, 3) := by decide +kernel
theorem dX4_undo_34 : decode cX4_undo 34 = .ok (.iconst 1, 1) := by decide +kernel
theorem dX4_undo_35 : decode cX4_undo 35 = .ok (.isub, 1) := by decide +kernel
theorem dX4_undo_36 : decode cX4_undo 36 = .ok (.putfield 25, 3) := by decide +kernel
theorem dX4_undo_39 : decode cX4_undo 39 = .ok (.aload_n 0, 1) := by decide +kernel
theorem dX4_undo_40 : decode cX4_undo 40 = .ok (.getfield 21, 3) := by decide +kernel
theorem dX4_undo_43 : decode cX4_undo 43 = .ok (.aload_n 0, 1) := by decide +kernel
theorem dX4_undo_44 : decode cX4_undo 44 = .ok (.getfield 25, 3) := by decide +kernel
theorem dX4_undo_47 : decode cX4_undo 47 = .ok (.iaload, 1) := by decide +kernel
theorem dX4_undo_48 : decode cX4_undo 48 = .ok (.istore_n 1, 1) := by decide +kernel
theorem dX4_undo_49 : decode cX4_undo 49 = .ok (.aload_n 0, 1) := by decide +kernel
theorem dX4_undo_50 : decode cX4_undo 50 = .ok (.getfield 18, 3) := by decide +kernel
theorem dX4_undo_53 : decode cX4_undo 53 = .ok (.iload_n 1, 1) := by decide +kernel
theorem dX4_undo_54 : decode cX4_undo 54 = .ok (.iconst 0, 1) := by decide +kernel
theorem dX4_undo_55 : decode cX4_undo 55 = .ok (.invokevirtual 75, 3) := by decide +kernel
theorem dX4_undo_58 : decode cX4_undo 58 = .ok (.iload_n 1, 1) := by decide +kernel
theorem dX4_undo_59 : decode cX4_undo 59 = .ok (.ireturn, 1) := by decide +kernel
set_option maxRecDepth 20000 in
theorem ggX4_run_X4_findCellOfOneNumber : GoodIn wsX4_run wsX4_findCellOfOneNumber := goodIn_r _ [7, 8, 9, 10, 11, 12, 13, 14, 15, 16, 17, 18, 19, 20, 21, 22, 23, 6, 24, 25, 26, 27, 28, 29, 30, 31, 32, 33, 34, 35, 36, 37, 38, 39, 40, 41, 42, 43, 44, 45, 46, 47, 48, 49, 50, 51, 52, 53, 54, 55, 56, 57, 58, 59, 60, 61, 62, 63, 64, 65, 66, 67, 68, 69, 70, 71, 72, 119, 120, 121, 122, 123, 124, 125, 126, 127, 128, 129] (by decide +kernel) (by decide +kernel)
set_option maxRecDepth 20000 in
theorem gX4_run_X4_findCellOfOneNumber : GoodIn wsX4_run (wsV RX4 128 RX4 yX4_findCellOfOneNumber wsX4_findCellOfOneNumber) := goodIn_app (goodIn_of _ (by decide +kernel)) ggX4_run_X4_findCellOfOneNumber
set_option maxRecDepth 20000 in
theorem ggX4_run_X4_findCellOfAllShapes : GoodIn wsX4_run wsX4_findCellOfAllShapes := goodIn_r _ [76, 8, 9, 10, 11, 12, 13, 14, 15, 16, 17, 18, 19, 20, 29, 30, 31, 32, 33, 34, 35, 36, 38, 39, 40, 41, 42, 48, 49, 50, 51, 52, 53, 54, 37, 55, 56, 57, 58, 59, 60, 61, 62, 63, 64, 65, 77, 78, 79, 6, 80, 81, 82, 83, 84, 85, 86, 87, 88, 89, 90, 91, 92, 93, 94, 95, 28, 96, 97, 98, 70, 71, 72, 99, 100, 101, 102, 25, 26, 27, 43, 44, 45, 46, 47, 66, 67, 68, 69, 119, 120, 121, 122, 123, 124, 125, 126, 127, 128, 129, 130, 131, 132] (by decide +kernel) (by decide +kernel)
set_option maxRecDepth 20000 in
theorem gX4_run_X4_findCellOfAllShapes : GoodIn wsX4_run (wsV RX4 131 RX4 yX4_findCellOfAllShapes wsX4_findCellOfAllShapes) := goodIn_app (goodIn_of _ (by decide +kernel)) ggX4_run_X4_findCellOfAllShapes
set_option maxRecDepth 20000 in
theorem ggX4_run_X4_findHiddenOne : GoodIn wsX4_run wsX4_findHiddenOne := goodIn_r _ [106, 8, 107, 10, 108, 109, 32, 33, 34, 35, 36, 70, 71, 72, 55, 56, 57, 58, 59, 60, 61, 62, 63, 64, 65, 13, 28, 29, 30, 31, 14, 15, 16, 17, 18, 19, 20, 9, 11, 12, 38, 39, 40, 41, 42, 110, 111, 112, 25, 26, 27, 37, 43, 44, 45, 46, 47, 48, 49, 50, 51, 52, 53, 54, 66, 67, 68, 69, 119, 120, 121, 122, 123, 124, 125, 126, 127, 128, 129] (by decide +kernel) (by decide +kernel)
set_option maxRecDepth 20000 in
theorem gX4_run_X4_findHiddenOne : GoodIn wsX4_run (wsV RX4 134 RX4 yX4_findHiddenOne wsX4_findHiddenOne) := goodIn_app (goodIn_of _ (by decide +kernel)) ggX4_run_X4_findHiddenOne
set_option maxRecDepth 20000 in
theorem ggX4_run_X4_putAndLog : GoodIn wsX4_run wsX4_putAndLog := goodIn_r _ [116, 117, 118, 8, 44, 10, 45, 46, 36, 40, 41, 42, 119, 120, 121, 122, 123, 124, 125, 126, 127, 128, 129] (by decide +kernel) (by decide +kernel)
set_option maxRecDepth 20000 in
theorem gX4_run_X4_putAndLog : GoodIn wsX4_run (wsV RX4 120 RX4 yX4_putAndLog wsX4_putAndLog) := goodIn_app (goodIn_of _ (by decide +kernel)) ggX4_run_X4_putAndLog
theorem dX4_run_0 : decode cX4_run 0 = .ok (.iload_n 1, 1) := by decide +kernel
theorem dX4_run_1 : decode cX4_run 1 = .ok (.tableswitch 51 0 2 #[27, 35, 43], 27) := by decide +kernel
theorem dX4_run_28 : decode cX4_run 28 = .ok (.aload_n 0, 1) := by decide +kernel
theorem dX4_run_29 : decode cX4_run 29 = .ok (.invokevirtual 128, 3) := by decide +kernel
theorem dX4_run_32 : decode cX4_run 32 = .ok (.istore_n 2, 1) := by decide +kernel
theorem dX4_run_33 : decode cX4_run 33 = .ok (.goto 29, 3) := by decide +kernel
theorem dX4_run_36 : decode cX4_run 36 = .ok (.aload_n 0, 1) := by decide +kernel
theorem dX4_run_37 : decode cX4_run 37 = .ok (.invokevirtual 131, 3) := by decide +kernel
theorem dX4_run_40 : decode cX4_run 40 = .ok (.istore_n 2, 1) := by decide +kernel
theorem dX4_run_41 : decode cX4_run 41 = .ok (.goto 21, 3) := by decide +kernel
theorem dX4_run_44 : decode cX4_run 44 = .ok (.aload_n 0, 1) := by decide +kernel
theorem dX4_run_45 : decode cX4_run 45 = .ok (.invokevirtual 134, 3) := by decide +kernel
theorem dX4_run_48 : decode cX4_run 48 = .ok (.istore_n 2, 1) := by decide +kernel
theorem dX4_run_49 : decode cX4_run 49 = .ok (.goto 13, 3) := by decide +kernel
theorem dX4_run_52 : decode cX4_run 52 = .ok (.new 47, 3) := by decide +kernel
theorem dX4_run_55 : decode cX4_run 55 = .ok (.dup, 1) := by decide +kernel
theorem dX4_run_56 : decode cX4_run 56 = .ok (.ldc 137, 2) := by decide +kernel
theorem dX4_run_58 : decode cX4_run 58 = .ok (.invokespecial 51, 3) := by decide +kernel
theorem dX4_run_61 : decode cX4_run 61 = .ok (.athrow, 1) := by decide +kernel
theorem dX4_run_62 : decode cX4_run 62 = .ok (.iload_n 2, 1) := by decide +kernel
theorem dX4_run_63 : decode cX4_run 63 = .ok (.iconst (-1), 1) := by decide +kernel
theorem dX4_run_64 : decode cX4_run 64 = .ok (.if_icmp .eq 15, 3) := by decide +kernel
theorem dX4_run_67 : decode cX4_run 67 = .ok (.aload_n 0, 1) := by decide +kernel
theorem dX4_run_68 : decode cX4_run 68 = .ok (.iload_n 2, 1) := by decide +kernel
theorem dX4_run_69 : decode cX4_run 69 = .ok (.bipush 10, 2) := by decide +kernel
theorem dX4_run_71 : decode cX4_run 71 = .ok (.idiv, 1) := by decide +kernel
theorem dX4_run_72 : decode cX4_run 72 = .ok (.iload_n 2, 1) := by decide +kernel
theorem dX4_run_73 : decode cX4_run 73 = .ok (.bipush 10, 2) := by decide +kernel
theorem dX4_run_75 : decode cX4_run 75 = .ok (.irem, 1) := by decide +kernel
theorem dX4_run_76 : decode cX4_run 76 = .ok (.invokevirtual 120, 3) := by decide +kernel
theorem dX4_run_79 : decode cX4_run 79 = .ok (.iload_n 2, 1) := by decide +kernel
theorem dX4_run_80 : decode cX4_run 80 = .ok (.ireturn, 1) := by decide +kernel
theorem dX4_filled_0 : decode cX4_filled 0 = .ok (.aload_n 0, 1) := by decide +kernel
theorem dX4_filled_1 : decode cX4_filled 1 = .ok (.getfield 25, 3) := by decide +kernel
theorem dX4_filled_4 : decode cX4_filled 4 = .ok (.ireturn, 1) := by decide +kernel
set_option maxRecDepth 20000 in
theorem ggX4_area_X0_cellCount : GoodIn wsX4_area wsX0_cellCount := goodIn_r _ [5, 6, 7, 8, 9, 10, 11, 12, 13, 20, 21, 22, 23, 24] (by decide +kernel) (by decide +kernel)
set_option maxRecDepth 20000 in
theorem gX4_area_X0_cellCount_n60 : GoodIn wsX4_area (wsX0_cellCount) := ggX4_area_X0_cellCount
theorem dX4_area_0 : decode cX4_area 0 = .ok (.aload_n 0, 1) := by decide +kernel
theorem dX4_area_1 : decode cX4_area 1 = .ok (.getfield 18, 3) := by decide +kernel
theorem dX4_area_4 : decode cX4_area 4 = .ok (.invokevirtual 60, 3) := by decide +kernel
theorem dX4_area_7 : decode cX4_area 7 = .ok (.ireturn, 1) := by decide +kernel
set_option maxRecDepth 20000 in
theorem ggX4_at_X4_requireCell : GoodIn wsX4_at wsX4_requireCell := goodIn_ca (goodIn_r _ [6, 7, 8, 1, 9, 10, 11, 12, 13, 14, 15, 16, 17, 18, 19, 20, 31, 32, 33, 34, 35, 36, 37, 38, 39, 40, 41] (by decide +kernel) (by decide +kernel)) (goodIn_sub (fun _ h => List.mem_cons_of_mem _ (List.mem_append_right _ h)) (by decide +kernel))
set_option maxRecDepth 20000 in
theorem gX4_at_X4_requireCell : GoodIn wsX4_at (wsV RX4 64 RX4 yX4_requireCell wsX4_requireCell) := goodIn_app (goodIn_of _ (by decide +kernel)) ggX4_at_X4_requireCell
set_option maxRecDepth 20000 in
theorem ggX4_at_X0_numberIn : GoodIn wsX4_at wsX0_numberIn := goodIn_r _ [23, 24, 25, 26, 10, 27, 28, 29, 30, 37, 38, 39, 40, 41] (by decide +kernel) (by decide +kernel)
set_option maxRecDepth 20000 in
theorem gX4_at_X0_numberIn_n71 : GoodIn wsX4_at (wsX0_numberIn) := ggX4_at_X0_numberIn
theorem dX4_at_0 : decode cX4_at 0 = .ok (.aload_n 0, 1) := by decide +kernel
theorem dX4_at_1 : decode cX4_at 1 = .ok (.iload_n 1, 1) := by decide +kernel
theorem dX4_at_2 : decode cX4_at 2 = .ok (.invokevirtual 64, 3) := by decide +kernel
theorem dX4_at_5 : decode cX4_at 5 = .ok (.aload_n 0, 1) := by decide +kernel
theorem dX4_at_6 : decode cX4_at 6 = .ok (.getfield 18, 3) := by decide +kernel
theorem dX4_at_9 : decode cX4_at 9 = .ok (.iload_n 1, 1) := by decide +kernel
theorem dX4_at_10 : decode cX4_at 10 = .ok (.invokevirtual 71, 3) := by decide +kernel
theorem dX4_at_13 : decode cX4_at 13 = .ok (.ireturn, 1) := by decide +kernel
set_option maxRecDepth 20000 in
theorem ggX4_isClue_X4_requireCell : GoodIn wsX4_isClue wsX4_requireCell := goodIn_ca (goodIn_r _ [6, 7, 8, 9, 10, 11, 12, 13, 14, 15, 16, 17, 18, 19, 20, 21, 32, 33, 34, 35, 36, 37, 38, 39, 40, 41, 42] (by decide +kernel) (by decide +kernel)) (goodIn_sub (fun _ h => List.mem_cons_of_mem _ (List.mem_append_right _ h)) (by decide +kernel))
set_option maxRecDepth 20000 in
theorem gX4_isClue_X4_requireCell : GoodIn wsX4_isClue (wsV RX4 64 RX4 yX4_requireCell wsX4_requireCell) := goodIn_app (goodIn_of _ (by decide +kernel)) ggX4_isClue_X4_requireCell
set_option maxRecDepth 20000 in
theorem ggX4_isClue_X0_numberIn : GoodIn wsX4_isClue wsX0_numberIn := goodIn_r _ [24, 25, 26, 27, 11, 28, 29, 30, 31, 38, 39, 40, 41, 42] (by decide +kernel) (by decide +kernel)
set_option maxRecDepth 20000 in
theorem gX4_isClue_X0_numberIn_n71 : GoodIn wsX4_isClue (wsX0_numberIn) := ggX4_isClue_X0_numberIn
theorem dX4_isClue_0 : decode cX4_isClue 0 = .ok (.aload_n 0, 1) := by decide +kernel
theorem dX4_isClue_1 : decode cX4_isClue 1 = .ok (.iload_n 1, 1) := by decide +kernel
theorem dX4_isClue_2 : decode cX4_isClue 2 = .ok (.invokevirtual 64, 3) := by decide +kernel
theorem dX4_isClue_5 : decode cX4_isClue 5 = .ok (.aload_n 0, 1) := by decide +kernel
theorem dX4_isClue_6 : decode cX4_isClue 6 = .ok (.getfield 12, 3) := by decide +kernel
theorem dX4_isClue_9 : decode cX4_isClue 9 = .ok (.iload_n 1, 1) := by decide +kernel
theorem dX4_isClue_10 : decode cX4_isClue 10 = .ok (.invokevirtual 71, 3) := by decide +kernel
theorem dX4_isClue_13 : decode cX4_isClue 13 = .ok (.ifCond .eq 7, 3) := by decide +kernel
theorem dX4_isClue_16 : decode cX4_isClue 16 = .ok (.iconst 1, 1) := by decide +kernel
theorem dX4_isClue_17 : decode cX4_isClue 17 = .ok (.goto 4, 3) := by decide +kernel
theorem dX4_isClue_20 : decode cX4_isClue 20 = .ok (.iconst 0, 1) := by decide +kernel
theorem dX4_isClue_21 : decode cX4_isClue 21 = .ok (.ireturn, 1) := by decide +kernel
set_option maxRecDepth 20000 in
theorem ggX4_size_X4_requireCell : GoodIn wsX4_size wsX4_requireCell := goodIn_ca (goodIn_r _ [6, 7, 8, 1, 9, 10, 11, 12, 13, 14, 15, 16, 17, 18, 19, 20, 51, 52, 53, 54, 55, 56, 57, 58, 59, 60, 61] (by decide +kernel) (by decide +kernel)) (goodIn_sub (fun _ h => List.mem_cons_of_mem _ (List.mem_append_right _ h)) (by decide +kernel))
set_option maxRecDepth 20000 in
theorem gX4_size_X4_requireCell : GoodIn wsX4_size (wsV RX4 64 RX4 yX4_requireCell wsX4_requireCell) := goodIn_app (goodIn_of _ (by decide +kernel)) ggX4_size_X4_requireCell
set_option maxRecDepth 20000 in
theorem ggX4_size_X0_fieldOf : GoodIn wsX4_size wsX0_fieldOf := goodIn_r _ [23, 24, 25, 26, 10, 27, 28, 29, 30, 31, 32, 33, 34, 35, 36, 37, 38, 39, 40, 41, 42, 43, 44, 45, 46, 47, 48, 49, 13, 57, 58, 59, 60, 61] (by decide +kernel) (by decide +kernel)
set_option maxRecDepth 20000 in
theorem gX4_size_X0_fieldOf_n123 : GoodIn wsX4_size (wsX0_fieldOf) := ggX4_size_X0_fieldOf
set_option maxRecDepth 20000 in
theorem ggX4_size_J6_bitCount_0f7a4 : GoodIn wsX4_size wsJ6_bitCount_0f7a4 := goodIn_r _ [17, 18, 19, 20] (by decide +kernel) (by decide +kernel)
set_option maxRecDepth 20000 in
theorem gX4_size_J6_bitCount_0f7a4 : GoodIn wsX4_size (va_wsS RX4 109 yJ6_bitCount_0f7a4 wsJ6_bitCount_0f7a4) := goodIn_app (goodIn_of _ (by decide +kernel)) ggX4_size_J6_bitCount_0f7a4
theorem dX4_size_0 : decode cX4_size 0 = .ok (.aload_n 0, 1) := by decide +kernel
theorem dX4_size_1 : decode cX4_size 1 = .ok (.iload_n 1, 1) := by decide +kernel
theorem dX4_size_2 : decode cX4_size 2 = .ok (.invokevirtual 64, 3) := by decide +kernel
theorem dX4_size_5 : decode cX4_size 5 = .ok (.aload_n 0, 1) := by decide +kernel
theorem dX4_size_6 : decode cX4_size 6 = .ok (.getfield 18, 3) := by decide +kernel
theorem dX4_size_9 : decode cX4_size 9 = .ok (.iload_n 1, 1) := by decide +kernel
theorem dX4_size_10 : decode cX4_size 10 = .ok (.invokevirtual 123, 3) := by decide +kernel
theorem dX4_size_13 : decode cX4_size 13 = .ok (.invokestatic 109, 3) := by decide +kernel
theorem dX4_size_16 : decode cX4_size 16 = .ok (.ireturn, 1) := by decide +kernel
set_option maxRecDepth 20000 in
theorem ggX4_room_X4_requireCell : GoodIn wsX4_room wsX4_requireCell := goodIn_ca (goodIn_r _ [6, 7, 8, 1, 9, 10, 11, 12, 13, 14, 15, 16, 17, 18, 19, 20, 55, 56, 57, 58, 59, 60, 61, 62, 63, 64, 65] (by decide +kernel) (by decide +kernel)) (goodIn_sub (fun _ h => List.mem_cons_of_mem _ (List.mem_append_right _ h)) (by decide +kernel))
set_option maxRecDepth 20000 in
theorem gX4_room_X4_requireCell : GoodIn wsX4_room (wsV RX4 64 RX4 yX4_requireCell wsX4_requireCell) := goodIn_app (goodIn_of _ (by decide +kernel)) ggX4_room_X4_requireCell
set_option maxRecDepth 20000 in
theorem ggX4_room_X0_roomOf : GoodIn wsX4_room wsX0_roomOf := goodIn_r _ [23, 24, 25, 26, 10, 27, 28, 29, 30, 31, 32, 33, 34, 35, 36, 37, 38, 39, 40, 41, 42, 43, 44, 45, 46, 47, 48, 49, 50, 51, 52, 53, 13, 61, 62, 63, 64, 65] (by decide +kernel) (by decide +kernel)
set_option maxRecDepth 20000 in
theorem gX4_room_X0_roomOf_n139 : GoodIn wsX4_room (wsX0_roomOf) := ggX4_room_X0_roomOf
set_option maxRecDepth 20000 in
theorem ggX4_room_J6_bitCount_0f7a4 : GoodIn wsX4_room wsJ6_bitCount_0f7a4 := goodIn_r _ [17, 18, 19, 20] (by decide +kernel) (by decide +kernel)
set_option maxRecDepth 20000 in
theorem gX4_room_J6_bitCount_0f7a4 : GoodIn wsX4_room (va_wsS RX4 109 yJ6_bitCount_0f7a4 wsJ6_bitCount_0f7a4) := goodIn_app (goodIn_of _ (by decide +kernel)) ggX4_room_J6_bitCount_0f7a4
theorem dX4_room_0 : decode cX4_room 0 = .ok (.aload_n 0, 1) := by decide +kernel
theorem dX4_room_1 : decode cX4_room 1 = .ok (.iload_n 1, 1) := by decide +kernel
theorem dX4_room_2 : decode cX4_room 2 = .ok (.invokevirtual 64, 3) := by decide +kernel
theorem dX4_room_5 : decode cX4_room 5 = .ok (.aload_n 0, 1) := by decide +kernel
theorem dX4_room_6 : decode cX4_room 6 = .ok (.getfield 18, 3) := by decide +kernel
theorem dX4_room_9 : decode cX4_room 9 = .ok (.iload_n 1, 1) := by decide +kernel
theorem dX4_room_10 : decode cX4_room 10 = .ok (.invokevirtual 139, 3) := by decide +kernel
theorem dX4_room_13 : decode cX4_room 13 = .ok (.invokestatic 109, 3) := by decide +kernel
theorem dX4_room_16 : decode cX4_room 16 = .ok (.ireturn, 1) := by decide +kernel
set_option maxRecDepth 20000 in
theorem ggX4_canBe_X4_requireCell : GoodIn wsX4_canBe wsX4_requireCell := goodIn_ca (goodIn_r _ [6, 7, 8, 1, 9, 10, 11, 12, 13, 14, 15, 16, 17, 18, 19, 20, 74, 75, 76, 77, 78, 79, 80, 81, 82, 83, 84] (by decide +kernel) (by decide +kernel)) (goodIn_sub (fun _ h => List.mem_cons_of_mem _ (List.mem_append_left _ (List.mem_append_right _ h))) (by decide +kernel))
set_option maxRecDepth 20000 in
theorem gX4_canBe_X4_requireCell : GoodIn wsX4_canBe (wsV RX4 64 RX4 yX4_requireCell wsX4_requireCell) := goodIn_app (goodIn_of _ (by decide +kernel)) ggX4_canBe_X4_requireCell
set_option maxRecDepth 20000 in
theorem ggX4_canBe_X4_requireNumber : GoodIn wsX4_canBe wsX4_requireNumber := goodIn_ca (goodIn_r _ [23, 24, 25] (by decide +kernel) (by decide +kernel)) (goodIn_sub (fun _ h => List.mem_cons_of_mem _ (List.mem_append_right _ h)) (by decide +kernel))
set_option maxRecDepth 20000 in
theorem gX4_canBe_X4_requireNumber : GoodIn wsX4_canBe (va_wsS RX4 68 yX4_requireNumber wsX4_requireNumber) := goodIn_app (goodIn_of _ (by decide +kernel)) ggX4_canBe_X4_requireNumber
set_option maxRecDepth 20000 in
theorem ggX4_canBe_X0_canTake : GoodIn wsX4_canBe wsX0_canTake := goodIn_r _ [28, 29, 30, 31, 10, 32, 33, 34, 35, 36, 37, 38, 39, 40, 41, 42, 43, 44, 45, 46, 47, 48, 49, 50, 51, 52, 53, 54, 55, 56, 57, 58, 59, 60, 61, 62, 63, 64, 65, 66, 13, 14, 15, 16, 17, 18, 19, 20, 67, 68, 69, 70, 71, 72, 73, 80, 81, 82, 83, 84] (by decide +kernel) (by decide +kernel)
set_option maxRecDepth 20000 in
theorem gX4_canBe_X0_canTake_n114 : GoodIn wsX4_canBe (wsX0_canTake) := ggX4_canBe_X0_canTake
theorem dX4_canBe_0 : decode cX4_canBe 0 = .ok (.aload_n 0, 1) := by decide +kernel
theorem dX4_canBe_1 : decode cX4_canBe 1 = .ok (.iload_n 1, 1) := by decide +kernel
theorem dX4_canBe_2 : decode cX4_canBe 2 = .ok (.invokevirtual 64, 3) := by decide +kernel
theorem dX4_canBe_5 : decode cX4_canBe 5 = .ok (.iload_n 2, 1) := by decide +kernel
theorem dX4_canBe_6 : decode cX4_canBe 6 = .ok (.invokestatic 68, 3) := by decide +kernel
theorem dX4_canBe_9 : decode cX4_canBe 9 = .ok (.aload_n 0, 1) := by decide +kernel
theorem dX4_canBe_10 : decode cX4_canBe 10 = .ok (.getfield 18, 3) := by decide +kernel
theorem dX4_canBe_13 : decode cX4_canBe 13 = .ok (.iload_n 1, 1) := by decide +kernel
theorem dX4_canBe_14 : decode cX4_canBe 14 = .ok (.iload_n 2, 1) := by decide +kernel
theorem dX4_canBe_15 : decode cX4_canBe 15 = .ok (.invokevirtual 114, 3) := by decide +kernel
theorem dX4_canBe_18 : decode cX4_canBe 18 = .ok (.ireturn, 1) := by decide +kernel
set_option maxRecDepth 20000 in
theorem ggX4_isHidden_X4_requireCell : GoodIn wsX4_isHidden wsX4_requireCell := goodIn_ca (goodIn_r _ [6, 7, 8, 1, 9, 10, 11, 12, 13, 14, 15, 16, 17, 18, 19, 20, 52, 53, 54, 55, 56, 57, 58, 59, 60, 61, 62] (by decide +kernel) (by decide +kernel)) (goodIn_sub (fun _ h => List.mem_cons_of_mem _ (List.mem_append_right _ h)) (by decide +kernel))
set_option maxRecDepth 20000 in
theorem gX4_isHidden_X4_requireCell : GoodIn wsX4_isHidden (wsV RX4 64 RX4 yX4_requireCell wsX4_requireCell) := goodIn_app (goodIn_of _ (by decide +kernel)) ggX4_isHidden_X4_requireCell
set_option maxRecDepth 20000 in
theorem ggX4_isHidden_X0_hiddenCells : GoodIn wsX4_isHidden wsX0_hiddenCells := goodIn_r _ [23, 24, 25, 26, 10, 27, 28, 29, 30, 31, 32, 33, 34, 35, 36, 37, 38, 39, 40, 41, 42, 13, 43, 44, 45, 46, 14, 15, 16, 17, 18, 19, 20, 58, 59, 60, 61, 62] (by decide +kernel) (by decide +kernel)
set_option maxRecDepth 20000 in
theorem gX4_isHidden_X0_hiddenCells_n142 : GoodIn wsX4_isHidden (wsX0_hiddenCells) := ggX4_isHidden_X0_hiddenCells
set_option maxRecDepth 20000 in
theorem ggX4_isHidden_X0_has : GoodIn wsX4_isHidden wsX0_has := goodIn_r _ [48, 49, 50, 10, 51] (by decide +kernel) (by decide +kernel)
set_option maxRecDepth 20000 in
theorem gX4_isHidden_X0_has_n145 : GoodIn wsX4_isHidden (wsX0_has) := ggX4_isHidden_X0_has
theorem dX4_isHidden_0 : decode cX4_isHidden 0 = .ok (.aload_n 0, 1) := by decide +kernel
theorem dX4_isHidden_1 : decode cX4_isHidden 1 = .ok (.iload_n 1, 1) := by decide +kernel
theorem dX4_isHidden_2 : decode cX4_isHidden 2 = .ok (.invokevirtual 64, 3) := by decide +kernel
theorem dX4_isHidden_5 : decode cX4_isHidden 5 = .ok (.aload_n 0, 1) := by decide +kernel
