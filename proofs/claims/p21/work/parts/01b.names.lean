theorem inJ6 : ∀ w ∈ wsJ60, w ∈ lw_tbl := by decide +kernel
theorem inJ9 : ∀ w ∈ wsJ90, w ∈ lw_tbl := by decide +kernel
theorem inJ0 : ∀ w ∈ wsJ00, w ∈ lw_tbl := by decide +kernel
set_option maxRecDepth 20000 in
theorem ggX0_init_X0_layOut : GoodIn wsX0_init wsX0_layOut := goodIn_r _ [10, 11, 12, 13, 14, 15, 16, 9, 17, 18, 19, 20, 21, 5, 22, 23, 24, 25, 26] (by decide +kernel) (by decide +kernel)
set_option maxRecDepth 20000 in
theorem gX0_init_X0_layOut : GoodIn wsX0_init (wsV RX0 15 RX0 yX0_layOut wsX0_layOut) := goodIn_app (goodIn_of _ (by decide +kernel)) ggX0_init_X0_layOut
theorem dX0_init_0 : decode cX0_init 0 = .ok (.aload_n 0, 1) := by decide +kernel
theorem dX0_init_1 : decode cX0_init 1 = .ok (.invokespecial 3, 3) := by decide +kernel
theorem dX0_init_4 : decode cX0_init 4 = .ok (.aload_n 0, 1) := by decide +kernel
theorem dX0_init_5 : decode cX0_init 5 = .ok (.bipush 10, 2) := by decide +kernel
theorem dX0_init_7 : decode cX0_init 7 = .ok (.newarray .int, 2) := by decide +kernel
theorem dX0_init_9 : decode cX0_init 9 = .ok (.putfield 9, 3) := by decide +kernel
theorem dX0_init_12 : decode cX0_init 12 = .ok (.aload_n 0, 1) := by decide +kernel
theorem dX0_init_13 : decode cX0_init 13 = .ok (.iload_n 1, 1) := by decide +kernel
theorem dX0_init_14 : decode cX0_init 14 = .ok (.iload_n 2, 1) := by decide +kernel
theorem dX0_init_15 : decode cX0_init 15 = .ok (.invokevirtual 15, 3) := by decide +kernel
theorem dX0_init_18 : decode cX0_init 18 = .ok (.return_, 1) := by decide +kernel
set_option maxRecDepth 20000 in
theorem ggX0_layOut_X0_bit : GoodIn wsX0_layOut wsX0_bit := goodIn_r _ [8] (by decide +kernel) (by decide +kernel)
set_option maxRecDepth 20000 in
theorem gX0_layOut_X0_bit : GoodIn wsX0_layOut (va_wsS RX0 23 yX0_bit wsX0_bit) := goodIn_app (goodIn_of _ (by decide +kernel)) ggX0_layOut_X0_bit
set_option maxRecDepth 20000 in
theorem ggX0_layOut_X0_empty : GoodIn wsX0_layOut wsX0_empty := goodIn_r _ [12, 13, 2, 14, 15, 16, 17, 18] (by decide +kernel) (by decide +kernel)
set_option maxRecDepth 20000 in
theorem gX0_layOut_X0_empty : GoodIn wsX0_layOut (wsV RX0 36 RX0 yX0_empty wsX0_empty) := goodIn_app (goodIn_of _ (by decide +kernel)) ggX0_layOut_X0_empty
theorem dX0_layOut_0 : decode cX0_layOut 0 = .ok (.aload_n 0, 1) := by decide +kernel
theorem dX0_layOut_1 : decode cX0_layOut 1 = .ok (.iload_n 2, 1) := by decide +kernel
theorem dX0_layOut_2 : decode cX0_layOut 2 = .ok (.putfield 19, 3) := by decide +kernel
theorem dX0_layOut_5 : decode cX0_layOut 5 = .ok (.aload_n 0, 1) := by decide +kernel
theorem dX0_layOut_6 : decode cX0_layOut 6 = .ok (.iload_n 1, 1) := by decide +kernel
theorem dX0_layOut_7 : decode cX0_layOut 7 = .ok (.iload_n 2, 1) := by decide +kernel
theorem dX0_layOut_8 : decode cX0_layOut 8 = .ok (.imul, 1) := by decide +kernel
theorem dX0_layOut_9 : decode cX0_layOut 9 = .ok (.invokestatic 23, 3) := by decide +kernel
theorem dX0_layOut_12 : decode cX0_layOut 12 = .ok (.iconst 1, 1) := by decide +kernel
theorem dX0_layOut_13 : decode cX0_layOut 13 = .ok (.isub, 1) := by decide +kernel
theorem dX0_layOut_14 : decode cX0_layOut 14 = .ok (.putfield 27, 3) := by decide +kernel
theorem dX0_layOut_17 : decode cX0_layOut 17 = .ok (.aload_n 0, 1) := by decide +kernel
theorem dX0_layOut_18 : decode cX0_layOut 18 = .ok (.iconst 0, 1) := by decide +kernel
theorem dX0_layOut_19 : decode cX0_layOut 19 = .ok (.putfield 30, 3) := by decide +kernel
theorem dX0_layOut_22 : decode cX0_layOut 22 = .ok (.iconst 0, 1) := by decide +kernel
theorem dX0_layOut_23 : decode cX0_layOut 23 = .ok (.istore_n 3, 1) := by decide +kernel
theorem dX0_layOut_24 : decode cX0_layOut 24 = .ok (.iload_n 3, 1) := by decide +kernel
theorem dX0_layOut_25 : decode cX0_layOut 25 = .ok (.iload_n 1, 1) := by decide +kernel
theorem dX0_layOut_26 : decode cX0_layOut 26 = .ok (.if_icmp .ge 24, 3) := by decide +kernel
theorem dX0_layOut_29 : decode cX0_layOut 29 = .ok (.aload_n 0, 1) := by decide +kernel
theorem dX0_layOut_30 : decode cX0_layOut 30 = .ok (.dup, 1) := by decide +kernel
theorem dX0_layOut_31 : decode cX0_layOut 31 = .ok (.getfield 30, 3) := by decide +kernel
theorem dX0_layOut_34 : decode cX0_layOut 34 = .ok (.iload_n 3, 1) := by decide +kernel
theorem dX0_layOut_35 : decode cX0_layOut 35 = .ok (.iload_n 2, 1) := by decide +kernel
theorem dX0_layOut_36 : decode cX0_layOut 36 = .ok (.imul, 1) := by decide +kernel
theorem dX0_layOut_37 : decode cX0_layOut 37 = .ok (.invokestatic 23, 3) := by decide +kernel
theorem dX0_layOut_40 : decode cX0_layOut 40 = .ok (.ior, 1) := by decide +kernel
theorem dX0_layOut_41 : decode cX0_layOut 41 = .ok (.putfield 30, 3) := by decide +kernel
theorem dX0_layOut_44 : decode cX0_layOut 44 = .ok (.iinc 3 1, 3) := by decide +kernel
theorem dX0_layOut_47 : decode cX0_layOut 47 = .ok (.goto (-23), 3) := by decide +kernel
theorem dX0_layOut_50 : decode cX0_layOut 50 = .ok (.aload_n 0, 1) := by decide +kernel
theorem dX0_layOut_51 : decode cX0_layOut 51 = .ok (.aload_n 0, 1) := by decide +kernel
theorem dX0_layOut_52 : decode cX0_layOut 52 = .ok (.getfield 30, 3) := by decide +kernel
theorem dX0_layOut_55 : decode cX0_layOut 55 = .ok (.iload_n 2, 1) := by decide +kernel
theorem dX0_layOut_56 : decode cX0_layOut 56 = .ok (.iconst 1, 1) := by decide +kernel
theorem dX0_layOut_57 : decode cX0_layOut 57 = .ok (.isub, 1) := by decide +kernel
theorem dX0_layOut_58 : decode cX0_layOut 58 = .ok (.ishl, 1) := by decide +kernel
theorem dX0_layOut_59 : decode cX0_layOut 59 = .ok (.putfield 33, 3) := by decide +kernel
theorem dX0_layOut_62 : decode cX0_layOut 62 = .ok (.aload_n 0, 1) := by decide +kernel
theorem dX0_layOut_63 : decode cX0_layOut 63 = .ok (.invokevirtual 36, 3) := by decide +kernel
theorem dX0_layOut_66 : decode cX0_layOut 66 = .ok (.return_, 1) := by decide +kernel
theorem dX0_empty_0 : decode cX0_empty 0 = .ok (.iconst 0, 1) := by decide +kernel
theorem dX0_empty_1 : decode cX0_empty 1 = .ok (.istore_n 1, 1) := by decide +kernel
theorem dX0_empty_2 : decode cX0_empty 2 = .ok (.iload_n 1, 1) := by decide +kernel
theorem dX0_empty_3 : decode cX0_empty 3 = .ok (.aload_n 0, 1) := by decide +kernel
theorem dX0_empty_4 : decode cX0_empty 4 = .ok (.getfield 9, 3) := by decide +kernel
theorem dX0_empty_7 : decode cX0_empty 7 = .ok (.arraylength, 1) := by decide +kernel
theorem dX0_empty_8 : decode cX0_empty 8 = .ok (.if_icmp .ge 27, 3) := by decide +kernel
theorem dX0_empty_11 : decode cX0_empty 11 = .ok (.aload_n 0, 1) := by decide +kernel
theorem dX0_empty_12 : decode cX0_empty 12 = .ok (.getfield 9, 3) := by decide +kernel
theorem dX0_empty_15 : decode cX0_empty 15 = .ok (.iload_n 1, 1) := by decide +kernel
theorem dX0_empty_16 : decode cX0_empty 16 = .ok (.iload_n 1, 1) := by decide +kernel
theorem dX0_empty_17 : decode cX0_empty 17 = .ok (.ifCond .ne 10, 3) := by decide +kernel
theorem dX0_empty_20 : decode cX0_empty 20 = .ok (.aload_n 0, 1) := by decide +kernel
theorem dX0_empty_21 : decode cX0_empty 21 = .ok (.getfield 27, 3) := by decide +kernel
theorem dX0_empty_24 : decode cX0_empty 24 = .ok (.goto 4, 3) := by decide +kernel
theorem dX0_empty_27 : decode cX0_empty 27 = .ok (.iconst 0, 1) := by decide +kernel
theorem dX0_empty_28 : decode cX0_empty 28 = .ok (.iastore, 1) := by decide +kernel
theorem dX0_empty_29 : decode cX0_empty 29 = .ok (.iinc 1 1, 3) := by decide +kernel
theorem dX0_empty_32 : decode cX0_empty 32 = .ok (.goto (-30), 3) := by decide +kernel
theorem dX0_empty_35 : decode cX0_empty 35 = .ok (.return_, 1) := by decide +kernel
theorem dX0_copyFrom_0 : decode cX0_copyFrom 0 = .ok (.aload_n 0, 1) := by decide +kernel
theorem dX0_copyFrom_1 : decode cX0_copyFrom 1 = .ok (.aload_n 1, 1) := by decide +kernel
theorem dX0_copyFrom_2 : decode cX0_copyFrom 2 = .ok (.getfield 19, 3) := by decide +kernel
theorem dX0_copyFrom_5 : decode cX0_copyFrom 5 = .ok (.putfield 19, 3) := by decide +kernel
theorem dX0_copyFrom_8 : decode cX0_copyFrom 8 = .ok (.aload_n 0, 1) := by decide +kernel
theorem dX0_copyFrom_9 : decode cX0_copyFrom 9 = .ok (.aload_n 1, 1) := by decide +kernel
theorem dX0_copyFrom_10 : decode cX0_copyFrom 10 = .ok (.getfield 27, 3) := by decide +kernel
theorem dX0_copyFrom_13 : decode cX0_copyFrom 13 = .ok (.putfield 27, 3) := by decide +kernel
theorem dX0_copyFrom_16 : decode cX0_copyFrom 16 = .ok (.aload_n 0, 1) := by decide +kernel
theorem dX0_copyFrom_17 : decode cX0_copyFrom 17 = .ok (.aload_n 1, 1) := by decide +kernel
theorem dX0_copyFrom_18 : decode cX0_copyFrom 18 = .ok (.getfield 30, 3) := by decide +kernel
theorem dX0_copyFrom_21 : decode cX0_copyFrom 21 = .ok (.putfield 30, 3) := by decide +kernel
theorem dX0_copyFrom_24 : decode cX0_copyFrom 24 = .ok (.aload_n 0, 1) := by decide +kernel
theorem dX0_copyFrom_25 : decode cX0_copyFrom 25 = .ok (.aload_n 1, 1) := by decide +kernel
theorem dX0_copyFrom_26 : decode cX0_copyFrom 26 = .ok (.getfield 33, 3) := by decide +kernel
theorem dX0_copyFrom_29 : decode cX0_copyFrom 29 = .ok (.putfield 33, 3) := by decide +kernel
theorem dX0_copyFrom_32 : decode cX0_copyFrom 32 = .ok (.iconst 0, 1) := by decide +kernel
theorem dX0_copyFrom_33 : decode cX0_copyFrom 33 = .ok (.istore_n 2, 1) := by decide +kernel
theorem dX0_copyFrom_34 : decode cX0_copyFrom 34 = .ok (.iload_n 2, 1) := by decide +kernel
theorem dX0_copyFrom_35 : decode cX0_copyFrom 35 = .ok (.aload_n 0, 1) := by decide +kernel
theorem dX0_copyFrom_36 : decode cX0_copyFrom 36 = .ok (.getfield 9, 3) := by decide +kernel
theorem dX0_copyFrom_39 : decode cX0_copyFrom 39 = .ok (.arraylength, 1) := by decide +kernel
theorem dX0_copyFrom_40 : decode cX0_copyFrom 40 = .ok (.if_icmp .ge 30, 3) := by decide +kernel
theorem dX0_copyFrom_43 : decode cX0_copyFrom 43 = .ok (.iload_n 2, 1) := by decide +kernel
theorem dX0_copyFrom_44 : decode cX0_copyFrom 44 = .ok (.aload_n 1, 1) := by decide +kernel
theorem dX0_copyFrom_45 : decode cX0_copyFrom 45 = .ok (.getfield 9, 3) := by decide +kernel
theorem dX0_copyFrom_48 : decode cX0_copyFrom 48 = .ok (.arraylength, 1) := by decide +kernel
theorem dX0_copyFrom_49 : decode cX0_copyFrom 49 = .ok (.if_icmp .ge 21, 3) := by decide +kernel
theorem dX0_copyFrom_52 : decode cX0_copyFrom 52 = .ok (.aload_n 0, 1) := by decide +kernel
theorem dX0_copyFrom_53 : decode cX0_copyFrom 53 = .ok (.getfield 9, 3) := by decide +kernel
theorem dX0_copyFrom_56 : decode cX0_copyFrom 56 = .ok (.iload_n 2, 1) := by decide +kernel
theorem dX0_copyFrom_57 : decode cX0_copyFrom 57 = .ok (.aload_n 1, 1) := by decide +kernel
theorem dX0_copyFrom_58 : decode cX0_copyFrom 58 = .ok (.getfield 9, 3) := by decide +kernel
theorem dX0_copyFrom_61 : decode cX0_copyFrom 61 = .ok (.iload_n 2, 1) := by decide +kernel
theorem dX0_copyFrom_62 : decode cX0_copyFrom 62 = .ok (.iaload, 1) := by decide +kernel
theorem dX0_copyFrom_63 : decode cX0_copyFrom 63 = .ok (.iastore, 1) := by decide +kernel
theorem dX0_copyFrom_64 : decode cX0_copyFrom 64 = .ok (.iinc 2 1, 3) := by decide +kernel
theorem dX0_copyFrom_67 : decode cX0_copyFrom 67 = .ok (.goto (-33), 3) := by decide +kernel
theorem dX0_copyFrom_70 : decode cX0_copyFrom 70 = .ok (.return_, 1) := by decide +kernel
theorem dX0_bit_0 : decode cX0_bit 0 = .ok (.iconst 1, 1) := by decide +kernel
theorem dX0_bit_1 : decode cX0_bit 1 = .ok (.iload_n 0, 1) := by decide +kernel
theorem dX0_bit_2 : decode cX0_bit 2 = .ok (.ishl, 1) := by decide +kernel
theorem dX0_bit_3 : decode cX0_bit 3 = .ok (.ireturn, 1) := by decide +kernel
set_option maxRecDepth 20000 in
theorem ggX0_has_X0_bit : GoodIn wsX0_has wsX0_bit := goodIn_r _ [4] (by decide +kernel) (by decide +kernel)
set_option maxRecDepth 20000 in
theorem gX0_has_X0_bit : GoodIn wsX0_has (va_wsS RX0 23 yX0_bit wsX0_bit) := goodIn_app (goodIn_of _ (by decide +kernel)) ggX0_has_X0_bit
theorem dX0_has_0 : decode cX0_has 0 = .ok (.iload_n 0, 1) := by decide +kernel
theorem dX0_has_1 : decode cX0_has 1 = .ok (.iload_n 1, 1) := by decide +kernel
theorem dX0_has_2 : decode cX0_has 2 = .ok (.invokestatic 23, 3) := by decide +kernel
theorem dX0_has_5 : decode cX0_has 5 = .ok (.iand, 1) := by decide +kernel
theorem dX0_has_6 : decode cX0_has 6 = .ok (.ifCond .eq 7, 3) := by decide +kernel
theorem dX0_has_9 : decode cX0_has 9 = .ok (.iconst 1, 1) := by decide +kernel
theorem dX0_has_10 : decode cX0_has 10 = .ok (.goto 4, 3) := by decide +kernel
theorem dX0_has_13 : decode cX0_has 13 = .ok (.iconst 0, 1) := by decide +kernel
theorem dX0_has_14 : decode cX0_has 14 = .ok (.ireturn, 1) := by decide +kernel
theorem dX0_lowest_0 : decode cX0_lowest 0 = .ok (.iload_n 0, 1) := by decide +kernel
theorem dX0_lowest_1 : decode cX0_lowest 1 = .ok (.iload_n 0, 1) := by decide +kernel
theorem dX0_lowest_2 : decode cX0_lowest 2 = .ok (.ineg, 1) := by decide +kernel
theorem dX0_lowest_3 : decode cX0_lowest 3 = .ok (.iand, 1) := by decide +kernel
theorem dX0_lowest_4 : decode cX0_lowest 4 = .ok (.ireturn, 1) := by decide +kernel
set_option maxRecDepth 20000 in
theorem ggX0_cellCount_J6_bitCount_0f7a4 : GoodIn wsX0_cellCount wsJ6_bitCount_0f7a4 := goodIn_r _ [5, 6, 7, 8] (by decide +kernel) (by decide +kernel)
set_option maxRecDepth 20000 in
theorem gX0_cellCount_J6_bitCount_0f7a4 : GoodIn wsX0_cellCount (va_wsS RX0 39 yJ6_bitCount_0f7a4 wsJ6_bitCount_0f7a4) := goodIn_app (goodIn_of _ (by decide +kernel)) ggX0_cellCount_J6_bitCount_0f7a4
theorem dX0_cellCount_0 : decode cX0_cellCount 0 = .ok (.aload_n 0, 1) := by decide +kernel
theorem dX0_cellCount_1 : decode cX0_cellCount 1 = .ok (.getfield 27, 3) := by decide +kernel
theorem dX0_cellCount_4 : decode cX0_cellCount 4 = .ok (.invokestatic 39, 3) := by decide +kernel
theorem dX0_cellCount_7 : decode cX0_cellCount 7 = .ok (.ireturn, 1) := by decide +kernel
theorem dX0_cellsWith_0 : decode cX0_cellsWith 0 = .ok (.iload_n 1, 1) := by decide +kernel
theorem dX0_cellsWith_1 : decode cX0_cellsWith 1 = .ok (.ifCond .lt 21, 3) := by decide +kernel
theorem dX0_cellsWith_4 : decode cX0_cellsWith 4 = .ok (.iload_n 1, 1) := by decide +kernel
theorem dX0_cellsWith_5 : decode cX0_cellsWith 5 = .ok (.aload_n 0, 1) := by decide +kernel
theorem dX0_cellsWith_6 : decode cX0_cellsWith 6 = .ok (.getfield 9, 3) := by decide +kernel
theorem dX0_cellsWith_9 : decode cX0_cellsWith 9 = .ok (.arraylength, 1) := by decide +kernel
theorem dX0_cellsWith_10 : decode cX0_cellsWith 10 = .ok (.if_icmp .ge 12, 3) := by decide +kernel
theorem dX0_cellsWith_13 : decode cX0_cellsWith 13 = .ok (.aload_n 0, 1) := by decide +kernel
theorem dX0_cellsWith_14 : decode cX0_cellsWith 14 = .ok (.getfield 9, 3) := by decide +kernel
theorem dX0_cellsWith_17 : decode cX0_cellsWith 17 = .ok (.iload_n 1, 1) := by decide +kernel
theorem dX0_cellsWith_18 : decode cX0_cellsWith 18 = .ok (.iaload, 1) := by decide +kernel
theorem dX0_cellsWith_19 : decode cX0_cellsWith 19 = .ok (.goto 4, 3) := by decide +kernel
theorem dX0_cellsWith_22 : decode cX0_cellsWith 22 = .ok (.iconst 0, 1) := by decide +kernel
theorem dX0_cellsWith_23 : decode cX0_cellsWith 23 = .ok (.ireturn, 1) := by decide +kernel
set_option maxRecDepth 20000 in
theorem ggX0_emptyCells_X0_cellsWith : GoodIn wsX0_emptyCells wsX0_cellsWith := goodIn_r _ [5, 6, 7, 8, 9, 10, 11] (by decide +kernel) (by decide +kernel)
set_option maxRecDepth 20000 in
theorem gX0_emptyCells_X0_cellsWith : GoodIn wsX0_emptyCells (wsV RX0 44 RX0 yX0_cellsWith wsX0_cellsWith) := goodIn_app (goodIn_of _ (by decide +kernel)) ggX0_emptyCells_X0_cellsWith
theorem dX0_emptyCells_0 : decode cX0_emptyCells 0 = .ok (.aload_n 0, 1) := by decide +kernel
theorem dX0_emptyCells_1 : decode cX0_emptyCells 1 = .ok (.iconst 0, 1) := by decide +kernel
theorem dX0_emptyCells_2 : decode cX0_emptyCells 2 = .ok (.invokevirtual 44, 3) := by decide +kernel
theorem dX0_emptyCells_5 : decode cX0_emptyCells 5 = .ok (.ireturn, 1) := by decide +kernel
set_option maxRecDepth 20000 in
theorem ggX0_numberIn_X0_has : GoodIn wsX0_numberIn wsX0_has := goodIn_r _ [5, 6, 7, 4, 8] (by decide +kernel) (by decide +kernel)
set_option maxRecDepth 20000 in
theorem gX0_numberIn_X0_has : GoodIn wsX0_numberIn (va_wsS RX0 47 yX0_has wsX0_has) := goodIn_app (goodIn_of _ (by decide +kernel)) ggX0_numberIn_X0_has
theorem dX0_numberIn_0 : decode cX0_numberIn 0 = .ok (.iconst 1, 1) := by decide +kernel
theorem dX0_numberIn_1 : decode cX0_numberIn 1 = .ok (.istore_n 2, 1) := by decide +kernel
theorem dX0_numberIn_2 : decode cX0_numberIn 2 = .ok (.iload_n 2, 1) := by decide +kernel
theorem dX0_numberIn_3 : decode cX0_numberIn 3 = .ok (.aload_n 0, 1) := by decide +kernel
theorem dX0_numberIn_4 : decode cX0_numberIn 4 = .ok (.getfield 9, 3) := by decide +kernel
theorem dX0_numberIn_7 : decode cX0_numberIn 7 = .ok (.arraylength, 1) := by decide +kernel
theorem dX0_numberIn_8 : decode cX0_numberIn 8 = .ok (.if_icmp .ge 24, 3) := by decide +kernel
theorem dX0_numberIn_11 : decode cX0_numberIn 11 = .ok (.aload_n 0, 1) := by decide +kernel
theorem dX0_numberIn_12 : decode cX0_numberIn 12 = .ok (.getfield 9, 3) := by decide +kernel
theorem dX0_numberIn_15 : decode cX0_numberIn 15 = .ok (.iload_n 2, 1) := by decide +kernel
theorem dX0_numberIn_16 : decode cX0_numberIn 16 = .ok (.iaload, 1) := by decide +kernel
theorem dX0_numberIn_17 : decode cX0_numberIn 17 = .ok (.iload_n 1, 1) := by decide +kernel
theorem dX0_numberIn_18 : decode cX0_numberIn 18 = .ok (.invokestatic 47, 3) := by decide +kernel
theorem dX0_numberIn_21 : decode cX0_numberIn 21 = .ok (.ifCond .eq 5, 3) := by decide +kernel
theorem dX0_numberIn_24 : decode cX0_numberIn 24 = .ok (.iload_n 2, 1) := by decide +kernel
theorem dX0_numberIn_25 : decode cX0_numberIn 25 = .ok (.ireturn, 1) := by decide +kernel
theorem dX0_numberIn_26 : decode cX0_numberIn 26 = .ok (.iinc 2 1, 3) := by decide +kernel
theorem dX0_numberIn_29 : decode cX0_numberIn 29 = .ok (.goto (-27), 3) := by decide +kernel
theorem dX0_numberIn_32 : decode cX0_numberIn 32 = .ok (.iconst 0, 1) := by decide +kernel
theorem dX0_numberIn_33 : decode cX0_numberIn 33 = .ok (.ireturn, 1) := by decide +kernel
set_option maxRecDepth 20000 in
theorem ggX0_write_X0_bit : GoodIn wsX0_write wsX0_bit := goodIn_r _ [5] (by decide +kernel) (by decide +kernel)
set_option maxRecDepth 20000 in
theorem gX0_write_X0_bit : GoodIn wsX0_write (va_wsS RX0 23 yX0_bit wsX0_bit) := goodIn_app (goodIn_of _ (by decide +kernel)) ggX0_write_X0_bit
theorem dX0_write_0 : decode cX0_write 0 = .ok (.iconst 0, 1) := by decide +kernel
theorem dX0_write_1 : decode cX0_write 1 = .ok (.istore_n 3, 1) := by decide +kernel
theorem dX0_write_2 : decode cX0_write 2 = .ok (.iload_n 3, 1) := by decide +kernel
theorem dX0_write_3 : decode cX0_write 3 = .ok (.aload_n 0, 1) := by decide +kernel
theorem dX0_write_4 : decode cX0_write 4 = .ok (.getfield 9, 3) := by decide +kernel
theorem dX0_write_7 : decode cX0_write 7 = .ok (.arraylength, 1) := by decide +kernel
theorem dX0_write_8 : decode cX0_write 8 = .ok (.if_icmp .ge 45, 3) := by decide +kernel
theorem dX0_write_11 : decode cX0_write 11 = .ok (.iload_n 3, 1) := by decide +kernel
theorem dX0_write_12 : decode cX0_write 12 = .ok (.iload_n 2, 1) := by decide +kernel
theorem dX0_write_13 : decode cX0_write 13 = .ok (.if_icmp .ne 19, 3) := by decide +kernel
theorem dX0_write_16 : decode cX0_write 16 = .ok (.aload_n 0, 1) := by decide +kernel
theorem dX0_write_17 : decode cX0_write 17 = .ok (.getfield 9, 3) := by decide +kernel
theorem dX0_write_20 : decode cX0_write 20 = .ok (.iload_n 3, 1) := by decide +kernel
theorem dX0_write_21 : decode cX0_write 21 = .ok (.dup2, 1) := by decide +kernel
theorem dX0_write_22 : decode cX0_write 22 = .ok (.iaload, 1) := by decide +kernel
theorem dX0_write_23 : decode cX0_write 23 = .ok (.iload_n 1, 1) := by decide +kernel
theorem dX0_write_24 : decode cX0_write 24 = .ok (.invokestatic 23, 3) := by decide +kernel
theorem dX0_write_27 : decode cX0_write 27 = .ok (.ior, 1) := by decide +kernel
theorem dX0_write_28 : decode cX0_write 28 = .ok (.iastore, 1) := by decide +kernel
theorem dX0_write_29 : decode cX0_write 29 = .ok (.goto 18, 3) := by decide +kernel
theorem dX0_write_32 : decode cX0_write 32 = .ok (.aload_n 0, 1) := by decide +kernel
theorem dX0_write_33 : decode cX0_write 33 = .ok (.getfield 9, 3) := by decide +kernel
theorem dX0_write_36 : decode cX0_write 36 = .ok (.iload_n 3, 1) := by decide +kernel
theorem dX0_write_37 : decode cX0_write 37 = .ok (.dup2, 1) := by decide +kernel
theorem dX0_write_38 : decode cX0_write 38 = .ok (.iaload, 1) := by decide +kernel
theorem dX0_write_39 : decode cX0_write 39 = .ok (.iload_n 1, 1) := by decide +kernel
theorem dX0_write_40 : decode cX0_write 40 = .ok (.invokestatic 23, 3) := by decide +kernel
theorem dX0_write_43 : decode cX0_write 43 = .ok (.iconst (-1), 1) := by decide +kernel
theorem dX0_write_44 : decode cX0_write 44 = .ok (.ixor, 1) := by decide +kernel
theorem dX0_write_45 : decode cX0_write 45 = .ok (.iand, 1) := by decide +kernel
theorem dX0_write_46 : decode cX0_write 46 = .ok (.iastore, 1) := by decide +kernel
theorem dX0_write_47 : decode cX0_write 47 = .ok (.iinc 3 1, 3) := by decide +kernel
theorem dX0_write_50 : decode cX0_write 50 = .ok (.goto (-48), 3) := by decide +kernel
theorem dX0_write_53 : decode cX0_write 53 = .ok (.return_, 1) := by decide +kernel
theorem dX0_beside_0 : decode cX0_beside 0 = .ok (.iload_n 1, 1) := by decide +kernel
theorem dX0_beside_1 : decode cX0_beside 1 = .ok (.aload_n 0, 1) := by decide +kernel
theorem dX0_beside_2 : decode cX0_beside 2 = .ok (.getfield 30, 3) := by decide +kernel
theorem dX0_beside_5 : decode cX0_beside 5 = .ok (.iconst (-1), 1) := by decide +kernel
theorem dX0_beside_6 : decode cX0_beside 6 = .ok (.ixor, 1) := by decide +kernel
theorem dX0_beside_7 : decode cX0_beside 7 = .ok (.iand, 1) := by decide +kernel
theorem dX0_beside_8 : decode cX0_beside 8 = .ok (.iconst 1, 1) := by decide +kernel
theorem dX0_beside_9 : decode cX0_beside 9 = .ok (.iushr, 1) := by decide +kernel
theorem dX0_beside_10 : decode cX0_beside 10 = .ok (.istore_n 2, 1) := by decide +kernel
theorem dX0_beside_11 : decode cX0_beside 11 = .ok (.iload_n 1, 1) := by decide +kernel
theorem dX0_beside_12 : decode cX0_beside 12 = .ok (.aload_n 0, 1) := by decide +kernel
theorem dX0_beside_13 : decode cX0_beside 13 = .ok (.getfield 33, 3) := by decide +kernel
theorem dX0_beside_16 : decode cX0_beside 16 = .ok (.iconst (-1), 1) := by decide +kernel
theorem dX0_beside_17 : decode cX0_beside 17 = .ok (.ixor, 1) := by decide +kernel
theorem dX0_beside_18 : decode cX0_beside 18 = .ok (.iand, 1) := by decide +kernel
theorem dX0_beside_19 : decode cX0_beside 19 = .ok (.iconst 1, 1) := by decide +kernel
theorem dX0_beside_20 : decode cX0_beside 20 = .ok (.ishl, 1) := by decide +kernel
theorem dX0_beside_21 : decode cX0_beside 21 = .ok (.istore_n 3, 1) := by decide +kernel
theorem dX0_beside_22 : decode cX0_beside 22 = .ok (.iload_n 1, 1) := by decide +kernel
theorem dX0_beside_23 : decode cX0_beside 23 = .ok (.aload_n 0, 1) := by decide +kernel
theorem dX0_beside_24 : decode cX0_beside 24 = .ok (.getfield 19, 3) := by decide +kernel
theorem dX0_beside_27 : decode cX0_beside 27 = .ok (.iushr, 1) := by decide +kernel
theorem dX0_beside_28 : decode cX0_beside 28 = .ok (.istore 4, 2) := by decide +kernel
theorem dX0_beside_30 : decode cX0_beside 30 = .ok (.iload_n 1, 1) := by decide +kernel
theorem dX0_beside_31 : decode cX0_beside 31 = .ok (.aload_n 0, 1) := by decide +kernel
theorem dX0_beside_32 : decode cX0_beside 32 = .ok (.getfield 19, 3) := by decide +kernel
theorem dX0_beside_35 : decode cX0_beside 35 = .ok (.ishl, 1) := by decide +kernel
theorem dX0_beside_36 : decode cX0_beside 36 = .ok (.istore 5, 2) := by decide +kernel
theorem dX0_beside_38 : decode cX0_beside 38 = .ok (.iload_n 2, 1) := by decide +kernel
theorem dX0_beside_39 : decode cX0_beside 39 = .ok (.iload_n 3, 1) := by decide +kernel
theorem dX0_beside_40 : decode cX0_beside 40 = .ok (.ior, 1) := by decide +kernel
theorem dX0_beside_41 : decode cX0_beside 41 = .ok (.iload 4, 2) := by decide +kernel
theorem dX0_beside_43 : decode cX0_beside 43 = .ok (.ior, 1) := by decide +kernel
theorem dX0_beside_44 : decode cX0_beside 44 = .ok (.iload 5, 2) := by decide +kernel
theorem dX0_beside_46 : decode cX0_beside 46 = .ok (.ior, 1) := by decide +kernel
theorem dX0_beside_47 : decode cX0_beside 47 = .ok (.aload_n 0, 1) := by decide +kernel
theorem dX0_beside_48 : decode cX0_beside 48 = .ok (.getfield 27, 3) := by decide +kernel
theorem dX0_beside_51 : decode cX0_beside 51 = .ok (.iand, 1) := by decide +kernel
theorem dX0_beside_52 : decode cX0_beside 52 = .ok (.ireturn, 1) := by decide +kernel
set_option maxRecDepth 20000 in
theorem ggX0_hasEmptyNeighbour_X0_bit : GoodIn wsX0_hasEmptyNeighbour wsX0_bit := goodIn_r _ [4] (by decide +kernel) (by decide +kernel)
set_option maxRecDepth 20000 in
theorem gX0_hasEmptyNeighbour_X0_bit : GoodIn wsX0_hasEmptyNeighbour (va_wsS RX0 23 yX0_bit wsX0_bit) := goodIn_app (goodIn_of _ (by decide +kernel)) ggX0_hasEmptyNeighbour_X0_bit
set_option maxRecDepth 20000 in
theorem ggX0_hasEmptyNeighbour_X0_beside : GoodIn wsX0_hasEmptyNeighbour wsX0_beside := goodIn_r _ [8, 9, 10, 11, 12, 22, 23, 24, 25, 26] (by decide +kernel) (by decide +kernel)
set_option maxRecDepth 20000 in
theorem gX0_hasEmptyNeighbour_X0_beside : GoodIn wsX0_hasEmptyNeighbour (wsV RX0 51 RX0 yX0_beside wsX0_beside) := goodIn_app (goodIn_of _ (by decide +kernel)) ggX0_hasEmptyNeighbour_X0_beside
set_option maxRecDepth 20000 in
theorem ggX0_hasEmptyNeighbour_X0_emptyCells : GoodIn wsX0_hasEmptyNeighbour wsX0_emptyCells := goodIn_r _ [16, 17, 18, 19, 3, 20, 21, 22, 23, 24, 25, 26] (by decide +kernel) (by decide +kernel)
set_option maxRecDepth 20000 in
theorem gX0_hasEmptyNeighbour_X0_emptyCells : GoodIn wsX0_hasEmptyNeighbour (wsV RX0 54 RX0 yX0_emptyCells wsX0_emptyCells) := goodIn_app (goodIn_of _ (by decide +kernel)) ggX0_hasEmptyNeighbour_X0_emptyCells
theorem dX0_hasEmptyNeighbour_0 : decode cX0_hasEmptyNeighbour 0 = .ok (.aload_n 0, 1) := by decide +kernel
theorem dX0_hasEmptyNeighbour_1 : decode cX0_hasEmptyNeighbour 1 = .ok (.iload_n 1, 1) := by decide +kernel
theorem dX0_hasEmptyNeighbour_2 : decode cX0_hasEmptyNeighbour 2 = .ok (.invokestatic 23, 3) := by decide +kernel
theorem dX0_hasEmptyNeighbour_5 : decode cX0_hasEmptyNeighbour 5 = .ok (.invokevirtual 51, 3) := by decide +kernel
theorem dX0_hasEmptyNeighbour_8 : decode cX0_hasEmptyNeighbour 8 = .ok (.aload_n 0, 1) := by decide +kernel
theorem dX0_hasEmptyNeighbour_9 : decode cX0_hasEmptyNeighbour 9 = .ok (.invokevirtual 54, 3) := by decide +kernel
theorem dX0_hasEmptyNeighbour_12 : decode cX0_hasEmptyNeighbour 12 = .ok (.iand, 1) := by decide +kernel
theorem dX0_hasEmptyNeighbour_13 : decode cX0_hasEmptyNeighbour 13 = .ok (.ifCond .eq 7, 3) := by decide +kernel
theorem dX0_hasEmptyNeighbour_16 : decode cX0_hasEmptyNeighbour 16 = .ok (.iconst 1, 1) := by decide +kernel
theorem dX0_hasEmptyNeighbour_17 : decode cX0_hasEmptyNeighbour 17 = .ok (.goto 4, 3) := by decide +kernel
theorem dX0_hasEmptyNeighbour_20 : decode cX0_hasEmptyNeighbour 20 = .ok (.iconst 0, 1) := by decide +kernel
theorem dX0_hasEmptyNeighbour_21 : decode cX0_hasEmptyNeighbour 21 = .ok (.ireturn, 1) := by decide +kernel
set_option maxRecDepth 20000 in
theorem ggX0_spread_X0_beside : GoodIn wsX0_spread wsX0_beside := goodIn_r _ [5, 6, 7, 8, 9, 10, 11, 12, 13, 14] (by decide +kernel) (by decide +kernel)
set_option maxRecDepth 20000 in
theorem gX0_spread_X0_beside : GoodIn wsX0_spread (wsV RX0 51 RX0 yX0_beside wsX0_beside) := goodIn_app (goodIn_of _ (by decide +kernel)) ggX0_spread_X0_beside
theorem dX0_spread_0 : decode cX0_spread 0 = .ok (.iload_n 1, 1) := by decide +kernel
theorem dX0_spread_1 : decode cX0_spread 1 = .ok (.istore 4, 2) := by decide +kernel
theorem dX0_spread_3 : decode cX0_spread 3 = .ok (.iconst 0, 1) := by decide +kernel
theorem dX0_spread_4 : decode cX0_spread 4 = .ok (.istore 5, 2) := by decide +kernel
theorem dX0_spread_6 : decode cX0_spread 6 = .ok (.iload 5, 2) := by decide +kernel
theorem dX0_spread_8 : decode cX0_spread 8 = .ok (.iload_n 3, 1) := by decide +kernel
theorem dX0_spread_9 : decode cX0_spread 9 = .ok (.if_icmp .ge 36, 3) := by decide +kernel
theorem dX0_spread_12 : decode cX0_spread 12 = .ok (.iload 4, 2) := by decide +kernel
theorem dX0_spread_14 : decode cX0_spread 14 = .ok (.aload_n 0, 1) := by decide +kernel
theorem dX0_spread_15 : decode cX0_spread 15 = .ok (.iload 4, 2) := by decide +kernel
theorem dX0_spread_17 : decode cX0_spread 17 = .ok (.invokevirtual 51, 3) := by decide +kernel
theorem dX0_spread_20 : decode cX0_spread 20 = .ok (.iload_n 2, 1) := by decide +kernel
theorem dX0_spread_21 : decode cX0_spread 21 = .ok (.iand, 1) := by decide +kernel
theorem dX0_spread_22 : decode cX0_spread 22 = .ok (.ior, 1) := by decide +kernel
theorem dX0_spread_23 : decode cX0_spread 23 = .ok (.istore 6, 2) := by decide +kernel
theorem dX0_spread_25 : decode cX0_spread 25 = .ok (.iload 6, 2) := by decide +kernel
theorem dX0_spread_27 : decode cX0_spread 27 = .ok (.iload 4, 2) := by decide +kernel
theorem dX0_spread_29 : decode cX0_spread 29 = .ok (.if_icmp .ne 6, 3) := by decide +kernel
theorem dX0_spread_32 : decode cX0_spread 32 = .ok (.iload 4, 2) := by decide +kernel
theorem dX0_spread_34 : decode cX0_spread 34 = .ok (.ireturn, 1) := by decide +kernel
theorem dX0_spread_35 : decode cX0_spread 35 = .ok (.iload 6, 2) := by decide +kernel
theorem dX0_spread_37 : decode cX0_spread 37 = .ok (.istore 4, 2) := by decide +kernel
theorem dX0_spread_39 : decode cX0_spread 39 = .ok (.iinc 5 1, 3) := by decide +kernel
theorem dX0_spread_42 : decode cX0_spread 42 = .ok (.goto (-36), 3) := by decide +kernel
theorem dX0_spread_45 : decode cX0_spread 45 = .ok (.iload 4, 2) := by decide +kernel
theorem dX0_spread_47 : decode cX0_spread 47 = .ok (.ireturn, 1) := by decide +kernel
set_option maxRecDepth 20000 in
theorem ggX0_fieldOf_X0_numberIn : GoodIn wsX0_fieldOf wsX0_numberIn := goodIn_r _ [5, 6, 7, 8, 4, 9, 10, 11, 12, 29, 30, 31, 32, 33] (by decide +kernel) (by decide +kernel)
set_option maxRecDepth 20000 in
theorem gX0_fieldOf_X0_numberIn : GoodIn wsX0_fieldOf (wsV RX0 58 RX0 yX0_numberIn wsX0_numberIn) := goodIn_app (goodIn_of _ (by decide +kernel)) ggX0_fieldOf_X0_numberIn
set_option maxRecDepth 20000 in
theorem ggX0_fieldOf_X0_bit : GoodIn wsX0_fieldOf wsX0_bit := goodIn_r _ [12] (by decide +kernel) (by decide +kernel)
set_option maxRecDepth 20000 in
theorem gX0_fieldOf_X0_bit : GoodIn wsX0_fieldOf (va_wsS RX0 23 yX0_bit wsX0_bit) := goodIn_app (goodIn_of _ (by decide +kernel)) ggX0_fieldOf_X0_bit
set_option maxRecDepth 20000 in
theorem ggX0_fieldOf_X0_cellsWith : GoodIn wsX0_fieldOf wsX0_cellsWith := goodIn_r _ [16, 6, 29, 30, 31, 32, 33] (by decide +kernel) (by decide +kernel)
set_option maxRecDepth 20000 in
theorem gX0_fieldOf_X0_cellsWith : GoodIn wsX0_fieldOf (wsV RX0 44 RX0 yX0_cellsWith wsX0_cellsWith) := goodIn_app (goodIn_of _ (by decide +kernel)) ggX0_fieldOf_X0_cellsWith
set_option maxRecDepth 20000 in
theorem ggX0_fieldOf_X0_spread : GoodIn wsX0_fieldOf wsX0_spread := goodIn_r _ [20, 21, 22, 23, 4, 24, 25, 26, 27, 28, 29, 30, 31, 32, 33] (by decide +kernel) (by decide +kernel)
set_option maxRecDepth 20000 in
theorem gX0_fieldOf_X0_spread : GoodIn wsX0_fieldOf (wsV RX0 61 RX0 yX0_spread wsX0_spread) := goodIn_app (goodIn_of _ (by decide +kernel)) ggX0_fieldOf_X0_spread
theorem dX0_fieldOf_0 : decode cX0_fieldOf 0 = .ok (.aload_n 0, 1) := by decide +kernel
theorem dX0_fieldOf_1 : decode cX0_fieldOf 1 = .ok (.iload_n 1, 1) := by decide +kernel
theorem dX0_fieldOf_2 : decode cX0_fieldOf 2 = .ok (.invokevirtual 58, 3) := by decide +kernel
theorem dX0_fieldOf_5 : decode cX0_fieldOf 5 = .ok (.istore_n 2, 1) := by decide +kernel
theorem dX0_fieldOf_6 : decode cX0_fieldOf 6 = .ok (.iload_n 2, 1) := by decide +kernel
theorem dX0_fieldOf_7 : decode cX0_fieldOf 7 = .ok (.ifCond .ne 7, 3) := by decide +kernel
theorem dX0_fieldOf_10 : decode cX0_fieldOf 10 = .ok (.iconst 0, 1) := by decide +kernel
theorem dX0_fieldOf_11 : decode cX0_fieldOf 11 = .ok (.goto 18, 3) := by decide +kernel
theorem dX0_fieldOf_14 : decode cX0_fieldOf 14 = .ok (.aload_n 0, 1) := by decide +kernel
theorem dX0_fieldOf_15 : decode cX0_fieldOf 15 = .ok (.iload_n 1, 1) := by decide +kernel
theorem dX0_fieldOf_16 : decode cX0_fieldOf 16 = .ok (.invokestatic 23, 3) := by decide +kernel
theorem dX0_fieldOf_19 : decode cX0_fieldOf 19 = .ok (.aload_n 0, 1) := by decide +kernel
theorem dX0_fieldOf_20 : decode cX0_fieldOf 20 = .ok (.iload_n 2, 1) := by decide +kernel
theorem dX0_fieldOf_21 : decode cX0_fieldOf 21 = .ok (.invokevirtual 44, 3) := by decide +kernel
theorem dX0_fieldOf_24 : decode cX0_fieldOf 24 = .ok (.bipush 12, 2) := by decide +kernel
theorem dX0_fieldOf_26 : decode cX0_fieldOf 26 = .ok (.invokevirtual 61, 3) := by decide +kernel
theorem dX0_fieldOf_29 : decode cX0_fieldOf 29 = .ok (.ireturn, 1) := by decide +kernel
set_option maxRecDepth 20000 in
theorem ggX0_roomOf_X0_numberIn : GoodIn wsX0_roomOf wsX0_numberIn := goodIn_r _ [5, 6, 7, 8, 4, 9, 10, 11, 12, 33, 34, 35, 36, 37] (by decide +kernel) (by decide +kernel)
set_option maxRecDepth 20000 in
theorem gX0_roomOf_X0_numberIn : GoodIn wsX0_roomOf (wsV RX0 58 RX0 yX0_numberIn wsX0_numberIn) := goodIn_app (goodIn_of _ (by decide +kernel)) ggX0_roomOf_X0_numberIn
set_option maxRecDepth 20000 in
theorem ggX0_roomOf_X0_bit : GoodIn wsX0_roomOf wsX0_bit := goodIn_r _ [12] (by decide +kernel) (by decide +kernel)
set_option maxRecDepth 20000 in
theorem gX0_roomOf_X0_bit : GoodIn wsX0_roomOf (va_wsS RX0 23 yX0_bit wsX0_bit) := goodIn_app (goodIn_of _ (by decide +kernel)) ggX0_roomOf_X0_bit
set_option maxRecDepth 20000 in
theorem ggX0_roomOf_X0_cellsWith : GoodIn wsX0_roomOf wsX0_cellsWith := goodIn_r _ [16, 6, 33, 34, 35, 36, 37] (by decide +kernel) (by decide +kernel)
set_option maxRecDepth 20000 in
theorem gX0_roomOf_X0_cellsWith : GoodIn wsX0_roomOf (wsV RX0 44 RX0 yX0_cellsWith wsX0_cellsWith) := goodIn_app (goodIn_of _ (by decide +kernel)) ggX0_roomOf_X0_cellsWith
set_option maxRecDepth 20000 in
theorem ggX0_roomOf_X0_emptyCells : GoodIn wsX0_roomOf wsX0_emptyCells := goodIn_r _ [20, 13, 14, 15, 4, 16, 6, 33, 34, 35, 36, 37] (by decide +kernel) (by decide +kernel)
set_option maxRecDepth 20000 in
theorem gX0_roomOf_X0_emptyCells : GoodIn wsX0_roomOf (wsV RX0 54 RX0 yX0_emptyCells wsX0_emptyCells) := goodIn_app (goodIn_of _ (by decide +kernel)) ggX0_roomOf_X0_emptyCells
set_option maxRecDepth 20000 in
theorem ggX0_roomOf_X0_spread : GoodIn wsX0_roomOf wsX0_spread := goodIn_r _ [24, 25, 26, 27, 4, 28, 29, 30, 31, 32, 33, 34, 35, 36, 37] (by decide +kernel) (by decide +kernel)
set_option maxRecDepth 20000 in
theorem gX0_roomOf_X0_spread : GoodIn wsX0_roomOf (wsV RX0 61 RX0 yX0_spread wsX0_spread) := goodIn_app (goodIn_of _ (by decide +kernel)) ggX0_roomOf_X0_spread
theorem dX0_roomOf_0 : decode cX0_roomOf 0 = .ok (.aload_n 0, 1) := by decide +kernel
theorem dX0_roomOf_1 : decode cX0_roomOf 1 = .ok (.iload_n 1, 1) := by decide +kernel
theorem dX0_roomOf_2 : decode cX0_roomOf 2 = .ok (.invokevirtual 58, 3) := by decide +kernel
theorem dX0_roomOf_5 : decode cX0_roomOf 5 = .ok (.istore_n 2, 1) := by decide +kernel
theorem dX0_roomOf_6 : decode cX0_roomOf 6 = .ok (.iload_n 2, 1) := by decide +kernel
theorem dX0_roomOf_7 : decode cX0_roomOf 7 = .ok (.ifCond .ne 7, 3) := by decide +kernel
theorem dX0_roomOf_10 : decode cX0_roomOf 10 = .ok (.iconst 0, 1) := by decide +kernel
theorem dX0_roomOf_11 : decode cX0_roomOf 11 = .ok (.goto 23, 3) := by decide +kernel
theorem dX0_roomOf_14 : decode cX0_roomOf 14 = .ok (.aload_n 0, 1) := by decide +kernel
theorem dX0_roomOf_15 : decode cX0_roomOf 15 = .ok (.iload_n 1, 1) := by decide +kernel
theorem dX0_roomOf_16 : decode cX0_roomOf 16 = .ok (.invokestatic 23, 3) := by decide +kernel
theorem dX0_roomOf_19 : decode cX0_roomOf 19 = .ok (.aload_n 0, 1) := by decide +kernel
theorem dX0_roomOf_20 : decode cX0_roomOf 20 = .ok (.iload_n 2, 1) := by decide +kernel
theorem dX0_roomOf_21 : decode cX0_roomOf 21 = .ok (.invokevirtual 44, 3) := by decide +kernel
theorem dX0_roomOf_24 : decode cX0_roomOf 24 = .ok (.aload_n 0, 1) := by decide +kernel
theorem dX0_roomOf_25 : decode cX0_roomOf 25 = .ok (.invokevirtual 54, 3) := by decide +kernel
theorem dX0_roomOf_28 : decode cX0_roomOf 28 = .ok (.ior, 1) := by decide +kernel
theorem dX0_roomOf_29 : decode cX0_roomOf 29 = .ok (.bipush 12, 2) := by decide +kernel
theorem dX0_roomOf_31 : decode cX0_roomOf 31 = .ok (.invokevirtual 61, 3) := by decide +kernel
theorem dX0_roomOf_34 : decode cX0_roomOf 34 = .ok (.ireturn, 1) := by decide +kernel
set_option maxRecDepth 20000 in
theorem ggX0_isSound_X0_hasTooLargeField : GoodIn wsX0_isSound wsX0_hasTooLargeField := goodIn_r _ [5, 6, 7, 8, 4, 9, 10, 11, 12, 13, 14, 15, 16, 17, 18, 19, 20, 21, 22, 23, 24, 25, 26, 27, 28, 29, 30, 31, 32, 41, 42, 43, 44, 45] (by decide +kernel) (by decide +kernel)
set_option maxRecDepth 20000 in
theorem gX0_isSound_X0_hasTooLargeField : GoodIn wsX0_isSound (wsV RX0 65 RX0 yX0_hasTooLargeField wsX0_hasTooLargeField) := goodIn_app (goodIn_of _ (by decide +kernel)) ggX0_isSound_X0_hasTooLargeField
set_option maxRecDepth 20000 in
theorem ggX0_isSound_X0_hasTooLittleRoom : GoodIn wsX0_isSound wsX0_hasTooLittleRoom := goodIn_r _ [36, 6, 7, 8, 4, 9, 10, 37, 38, 39, 40, 11, 12, 13, 14, 15, 16, 17, 18, 19, 20, 21, 22, 23, 24, 25, 26, 27, 28, 29, 30, 31, 32, 41, 42, 43, 44, 45] (by decide +kernel) (by decide +kernel)
set_option maxRecDepth 20000 in
theorem gX0_isSound_X0_hasTooLittleRoom : GoodIn wsX0_isSound (wsV RX0 69 RX0 yX0_hasTooLittleRoom wsX0_hasTooLittleRoom) := goodIn_app (goodIn_of _ (by decide +kernel)) ggX0_isSound_X0_hasTooLittleRoom
theorem dX0_isSound_0 : decode cX0_isSound 0 = .ok (.iconst 1, 1) := by decide +kernel
theorem dX0_isSound_1 : decode cX0_isSound 1 = .ok (.istore_n 1, 1) := by decide +kernel
theorem dX0_isSound_2 : decode cX0_isSound 2 = .ok (.iload_n 1, 1) := by decide +kernel
theorem dX0_isSound_3 : decode cX0_isSound 3 = .ok (.bipush 9, 2) := by decide +kernel
theorem dX0_isSound_5 : decode cX0_isSound 5 = .ok (.if_icmp .gt 27, 3) := by decide +kernel
theorem dX0_isSound_8 : decode cX0_isSound 8 = .ok (.aload_n 0, 1) := by decide +kernel
theorem dX0_isSound_9 : decode cX0_isSound 9 = .ok (.iload_n 1, 1) := by decide +kernel
theorem dX0_isSound_10 : decode cX0_isSound 10 = .ok (.invokevirtual 65, 3) := by decide +kernel
theorem dX0_isSound_13 : decode cX0_isSound 13 = .ok (.ifCond .ne 11, 3) := by decide +kernel
theorem dX0_isSound_16 : decode cX0_isSound 16 = .ok (.aload_n 0, 1) := by decide +kernel
theorem dX0_isSound_17 : decode cX0_isSound 17 = .ok (.iload_n 1, 1) := by decide +kernel
theorem dX0_isSound_18 : decode cX0_isSound 18 = .ok (.invokevirtual 69, 3) := by decide +kernel
theorem dX0_isSound_21 : decode cX0_isSound 21 = .ok (.ifCond .eq 5, 3) := by decide +kernel
theorem dX0_isSound_24 : decode cX0_isSound 24 = .ok (.iconst 0, 1) := by decide +kernel
theorem dX0_isSound_25 : decode cX0_isSound 25 = .ok (.ireturn, 1) := by decide +kernel
theorem dX0_isSound_26 : decode cX0_isSound 26 = .ok (.iinc 1 1, 3) := by decide +kernel
theorem dX0_isSound_29 : decode cX0_isSound 29 = .ok (.goto (-27), 3) := by decide +kernel
theorem dX0_isSound_32 : decode cX0_isSound 32 = .ok (.iconst 1, 1) := by decide +kernel
theorem dX0_isSound_33 : decode cX0_isSound 33 = .ok (.ireturn, 1) := by decide +kernel
set_option maxRecDepth 20000 in
theorem ggX0_hasTooLargeField_X0_cellsWith : GoodIn wsX0_hasTooLargeField wsX0_cellsWith := goodIn_r _ [5, 6, 29, 30, 31, 32, 33] (by decide +kernel) (by decide +kernel)
set_option maxRecDepth 20000 in
theorem gX0_hasTooLargeField_X0_cellsWith : GoodIn wsX0_hasTooLargeField (wsV RX0 44 RX0 yX0_cellsWith wsX0_cellsWith) := goodIn_app (goodIn_of _ (by decide +kernel)) ggX0_hasTooLargeField_X0_cellsWith
set_option maxRecDepth 20000 in
theorem ggX0_hasTooLargeField_X0_lowest : GoodIn wsX0_hasTooLargeField wsX0_lowest := goodIn_r _ [9] (by decide +kernel) (by decide +kernel)
set_option maxRecDepth 20000 in
theorem gX0_hasTooLargeField_X0_lowest : GoodIn wsX0_hasTooLargeField (va_wsS RX0 72 yX0_lowest wsX0_lowest) := goodIn_app (goodIn_of _ (by decide +kernel)) ggX0_hasTooLargeField_X0_lowest
set_option maxRecDepth 20000 in
theorem ggX0_hasTooLargeField_X0_spread : GoodIn wsX0_hasTooLargeField wsX0_spread := goodIn_r _ [13, 14, 15, 16, 4, 17, 18, 19, 20, 21, 29, 30, 31, 32, 33] (by decide +kernel) (by decide +kernel)
set_option maxRecDepth 20000 in
theorem gX0_hasTooLargeField_X0_spread : GoodIn wsX0_hasTooLargeField (wsV RX0 61 RX0 yX0_spread wsX0_spread) := goodIn_app (goodIn_of _ (by decide +kernel)) ggX0_hasTooLargeField_X0_spread
set_option maxRecDepth 20000 in
theorem ggX0_hasTooLargeField_J6_bitCount_0f7a4 : GoodIn wsX0_hasTooLargeField wsJ6_bitCount_0f7a4 := goodIn_r _ [25, 26, 27, 28] (by decide +kernel) (by decide +kernel)
set_option maxRecDepth 20000 in
theorem gX0_hasTooLargeField_J6_bitCount_0f7a4 : GoodIn wsX0_hasTooLargeField (va_wsS RX0 39 yJ6_bitCount_0f7a4 wsJ6_bitCount_0f7a4) := goodIn_app (goodIn_of _ (by decide +kernel)) ggX0_hasTooLargeField_J6_bitCount_0f7a4
theorem dX0_hasTooLargeField_0 : decode cX0_hasTooLargeField 0 = .ok (.aload_n 0, 1) := by decide +kernel
theorem dX0_hasTooLargeField_1 : decode cX0_hasTooLargeField 1 = .ok (.iload_n 1, 1) := by decide +kernel
theorem dX0_hasTooLargeField_2 : decode cX0_hasTooLargeField 2 = .ok (.invokevirtual 44, 3) := by decide +kernel
theorem dX0_hasTooLargeField_5 : decode cX0_hasTooLargeField 5 = .ok (.istore_n 2, 1) := by decide +kernel
theorem dX0_hasTooLargeField_6 : decode cX0_hasTooLargeField 6 = .ok (.iload_n 2, 1) := by decide +kernel
theorem dX0_hasTooLargeField_7 : decode cX0_hasTooLargeField 7 = .ok (.istore_n 3, 1) := by decide +kernel
theorem dX0_hasTooLargeField_8 : decode cX0_hasTooLargeField 8 = .ok (.iconst 0, 1) := by decide +kernel
theorem dX0_hasTooLargeField_9 : decode cX0_hasTooLargeField 9 = .ok (.istore 4, 2) := by decide +kernel
theorem dX0_hasTooLargeField_11 : decode cX0_hasTooLargeField 11 = .ok (.iload 4, 2) := by decide +kernel
theorem dX0_hasTooLargeField_13 : decode cX0_hasTooLargeField 13 = .ok (.bipush 12, 2) := by decide +kernel
theorem dX0_hasTooLargeField_15 : decode cX0_hasTooLargeField 15 = .ok (.if_icmp .ge 44, 3) := by decide +kernel
theorem dX0_hasTooLargeField_18 : decode cX0_hasTooLargeField 18 = .ok (.iload_n 3, 1) := by decide +kernel
theorem dX0_hasTooLargeField_19 : decode cX0_hasTooLargeField 19 = .ok (.ifCond .eq 40, 3) := by decide +kernel
theorem dX0_hasTooLargeField_22 : decode cX0_hasTooLargeField 22 = .ok (.aload_n 0, 1) := by decide +kernel
theorem dX0_hasTooLargeField_23 : decode cX0_hasTooLargeField 23 = .ok (.iload_n 3, 1) := by decide +kernel
theorem dX0_hasTooLargeField_24 : decode cX0_hasTooLargeField 24 = .ok (.invokestatic 72, 3) := by decide +kernel
theorem dX0_hasTooLargeField_27 : decode cX0_hasTooLargeField 27 = .ok (.iload_n 2, 1) := by decide +kernel
theorem dX0_hasTooLargeField_28 : decode cX0_hasTooLargeField 28 = .ok (.bipush 12, 2) := by decide +kernel
theorem dX0_hasTooLargeField_30 : decode cX0_hasTooLargeField 30 = .ok (.invokevirtual 61, 3) := by decide +kernel
theorem dX0_hasTooLargeField_33 : decode cX0_hasTooLargeField 33 = .ok (.istore 5, 2) := by decide +kernel
theorem dX0_hasTooLargeField_35 : decode cX0_hasTooLargeField 35 = .ok (.iload 5, 2) := by decide +kernel
theorem dX0_hasTooLargeField_37 : decode cX0_hasTooLargeField 37 = .ok (.invokestatic 39, 3) := by decide +kernel
theorem dX0_hasTooLargeField_40 : decode cX0_hasTooLargeField 40 = .ok (.iload_n 1, 1) := by decide +kernel
theorem dX0_hasTooLargeField_41 : decode cX0_hasTooLargeField 41 = .ok (.if_icmp .le 5, 3) := by decide +kernel
theorem dX0_hasTooLargeField_44 : decode cX0_hasTooLargeField 44 = .ok (.iconst 1, 1) := by decide +kernel
theorem dX0_hasTooLargeField_45 : decode cX0_hasTooLargeField 45 = .ok (.ireturn, 1) := by decide +kernel
theorem dX0_hasTooLargeField_46 : decode cX0_hasTooLargeField 46 = .ok (.iload_n 3, 1) := by decide +kernel
theorem dX0_hasTooLargeField_47 : decode cX0_hasTooLargeField 47 = .ok (.iload 5, 2) := by decide +kernel
theorem dX0_hasTooLargeField_49 : decode cX0_hasTooLargeField 49 = .ok (.iconst (-1), 1) := by decide +kernel
theorem dX0_hasTooLargeField_50 : decode cX0_hasTooLargeField 50 = .ok (.ixor, 1) := by decide +kernel
theorem dX0_hasTooLargeField_51 : decode cX0_hasTooLargeField 51 = .ok (.iand, 1) := by decide +kernel
theorem dX0_hasTooLargeField_52 : decode cX0_hasTooLargeField 52 = .ok (.istore_n 3, 1) := by decide +kernel
theorem dX0_hasTooLargeField_53 : decode cX0_hasTooLargeField 53 = .ok (.iinc 4 1, 3) := by decide +kernel
theorem dX0_hasTooLargeField_56 : decode cX0_hasTooLargeField 56 = .ok (.goto (-45), 3) := by decide +kernel
theorem dX0_hasTooLargeField_59 : decode cX0_hasTooLargeField 59 = .ok (.iconst 0, 1) := by decide +kernel
theorem dX0_hasTooLargeField_60 : decode cX0_hasTooLargeField 60 = .ok (.ireturn, 1) := by decide +kernel
set_option maxRecDepth 20000 in
theorem ggX0_hasTooLittleRoom_X0_cellsWith : GoodIn wsX0_hasTooLittleRoom wsX0_cellsWith := goodIn_r _ [5, 6, 33, 34, 35, 36, 37] (by decide +kernel) (by decide +kernel)
set_option maxRecDepth 20000 in
theorem gX0_hasTooLittleRoom_X0_cellsWith : GoodIn wsX0_hasTooLittleRoom (wsV RX0 44 RX0 yX0_cellsWith wsX0_cellsWith) := goodIn_app (goodIn_of _ (by decide +kernel)) ggX0_hasTooLittleRoom_X0_cellsWith
set_option maxRecDepth 20000 in
theorem ggX0_hasTooLittleRoom_X0_emptyCells : GoodIn wsX0_hasTooLittleRoom wsX0_emptyCells := goodIn_r _ [10, 1, 2, 3, 4, 5, 6, 33, 34, 35, 36, 37] (by decide +kernel) (by decide +kernel)
set_option maxRecDepth 20000 in
theorem gX0_hasTooLittleRoom_X0_emptyCells : GoodIn wsX0_hasTooLittleRoom (wsV RX0 54 RX0 yX0_emptyCells wsX0_emptyCells) := goodIn_app (goodIn_of _ (by decide +kernel)) ggX0_hasTooLittleRoom_X0_emptyCells
set_option maxRecDepth 20000 in
theorem ggX0_hasTooLittleRoom_X0_lowest : GoodIn wsX0_hasTooLittleRoom wsX0_lowest := goodIn_r _ [13] (by decide +kernel) (by decide +kernel)
set_option maxRecDepth 20000 in
theorem gX0_hasTooLittleRoom_X0_lowest : GoodIn wsX0_hasTooLittleRoom (va_wsS RX0 72 yX0_lowest wsX0_lowest) := goodIn_app (goodIn_of _ (by decide +kernel)) ggX0_hasTooLittleRoom_X0_lowest
set_option maxRecDepth 20000 in
theorem ggX0_hasTooLittleRoom_X0_spread : GoodIn wsX0_hasTooLittleRoom wsX0_spread := goodIn_r _ [17, 18, 19, 20, 4, 21, 22, 23, 24, 25, 33, 34, 35, 36, 37] (by decide +kernel) (by decide +kernel)
set_option maxRecDepth 20000 in
theorem gX0_hasTooLittleRoom_X0_spread : GoodIn wsX0_hasTooLittleRoom (wsV RX0 61 RX0 yX0_spread wsX0_spread) := goodIn_app (goodIn_of _ (by decide +kernel)) ggX0_hasTooLittleRoom_X0_spread
set_option maxRecDepth 20000 in
theorem ggX0_hasTooLittleRoom_J6_bitCount_0f7a4 : GoodIn wsX0_hasTooLittleRoom wsJ6_bitCount_0f7a4 := goodIn_r _ [29, 30, 31, 32] (by decide +kernel) (by decide +kernel)
set_option maxRecDepth 20000 in
theorem gX0_hasTooLittleRoom_J6_bitCount_0f7a4 : GoodIn wsX0_hasTooLittleRoom (va_wsS RX0 39 yJ6_bitCount_0f7a4 wsJ6_bitCount_0f7a4) := goodIn_app (goodIn_of _ (by decide +kernel)) ggX0_hasTooLittleRoom_J6_bitCount_0f7a4
theorem dX0_hasTooLittleRoom_0 : decode cX0_hasTooLittleRoom 0 = .ok (.aload_n 0, 1) := by decide +kernel
theorem dX0_hasTooLittleRoom_1 : decode cX0_hasTooLittleRoom 1 = .ok (.iload_n 1, 1) := by decide +kernel
theorem dX0_hasTooLittleRoom_2 : decode cX0_hasTooLittleRoom 2 = .ok (.invokevirtual 44, 3) := by decide +kernel
theorem dX0_hasTooLittleRoom_5 : decode cX0_hasTooLittleRoom 5 = .ok (.aload_n 0, 1) := by decide +kernel
theorem dX0_hasTooLittleRoom_6 : decode cX0_hasTooLittleRoom 6 = .ok (.invokevirtual 54, 3) := by decide +kernel
theorem dX0_hasTooLittleRoom_9 : decode cX0_hasTooLittleRoom 9 = .ok (.ior, 1) := by decide +kernel
theorem dX0_hasTooLittleRoom_10 : decode cX0_hasTooLittleRoom 10 = .ok (.istore_n 2, 1) := by decide +kernel
theorem dX0_hasTooLittleRoom_11 : decode cX0_hasTooLittleRoom 11 = .ok (.aload_n 0, 1) := by decide +kernel
theorem dX0_hasTooLittleRoom_12 : decode cX0_hasTooLittleRoom 12 = .ok (.iload_n 1, 1) := by decide +kernel
theorem dX0_hasTooLittleRoom_13 : decode cX0_hasTooLittleRoom 13 = .ok (.invokevirtual 44, 3) := by decide +kernel
theorem dX0_hasTooLittleRoom_16 : decode cX0_hasTooLittleRoom 16 = .ok (.istore_n 3, 1) := by decide +kernel
theorem dX0_hasTooLittleRoom_17 : decode cX0_hasTooLittleRoom 17 = .ok (.iconst 0, 1) := by decide +kernel
theorem dX0_hasTooLittleRoom_18 : decode cX0_hasTooLittleRoom 18 = .ok (.istore 4, 2) := by decide +kernel
theorem dX0_hasTooLittleRoom_20 : decode cX0_hasTooLittleRoom 20 = .ok (.iload 4, 2) := by decide +kernel
theorem dX0_hasTooLittleRoom_22 : decode cX0_hasTooLittleRoom 22 = .ok (.bipush 12, 2) := by decide +kernel
theorem dX0_hasTooLittleRoom_24 : decode cX0_hasTooLittleRoom 24 = .ok (.if_icmp .ge 44, 3) := by decide +kernel
theorem dX0_hasTooLittleRoom_27 : decode cX0_hasTooLittleRoom 27 = .ok (.iload_n 3, 1) := by decide +kernel
theorem dX0_hasTooLittleRoom_28 : decode cX0_hasTooLittleRoom 28 = .ok (.ifCond .eq 40, 3) := by decide +kernel
theorem dX0_hasTooLittleRoom_31 : decode cX0_hasTooLittleRoom 31 = .ok (.aload_n 0, 1) := by decide +kernel
theorem dX0_hasTooLittleRoom_32 : decode cX0_hasTooLittleRoom 32 = .ok (.iload_n 3, 1) := by decide +kernel
theorem dX0_hasTooLittleRoom_33 : decode cX0_hasTooLittleRoom 33 = .ok (.invokestatic 72, 3) := by decide +kernel
theorem dX0_hasTooLittleRoom_36 : decode cX0_hasTooLittleRoom 36 = .ok (.iload_n 2, 1) := by decide +kernel
theorem dX0_hasTooLittleRoom_37 : decode cX0_hasTooLittleRoom 37 = .ok (.bipush 12, 2) := by decide +kernel
theorem dX0_hasTooLittleRoom_39 : decode cX0_hasTooLittleRoom 39 = .ok (.invokevirtual 61, 3) := by decide +kernel
theorem dX0_hasTooLittleRoom_42 : decode cX0_hasTooLittleRoom 42 = .ok (.istore 5, 2) := by decide +kernel
theorem dX0_hasTooLittleRoom_44 : decode cX0_hasTooLittleRoom 44 = .ok (.iload 5, 2) := by decide +kernel
theorem dX0_hasTooLittleRoom_46 : decode cX0_hasTooLittleRoom 46 = .ok (.invokestatic 39, 3) := by decide +kernel
theorem dX0_hasTooLittleRoom_49 : decode cX0_hasTooLittleRoom 49 = .ok (.iload_n 1, 1) := by decide +kernel
theorem dX0_hasTooLittleRoom_50 : decode cX0_hasTooLittleRoom 50 = .ok (.if_icmp .ge 5, 3) := by decide +kernel
theorem dX0_hasTooLittleRoom_53 : decode cX0_hasTooLittleRoom 53 = .ok (.iconst 1, 1) := by decide +kernel
theorem dX0_hasTooLittleRoom_54 : decode cX0_hasTooLittleRoom 54 = .ok (.ireturn, 1) := by decide +kernel
theorem dX0_hasTooLittleRoom_55 : decode cX0_hasTooLittleRoom 55 = .ok (.iload_n 3, 1) := by decide +kernel
theorem dX0_hasTooLittleRoom_56 : decode cX0_hasTooLittleRoom 56 = .ok (.iload 5, 2) := by decide +kernel
theorem dX0_hasTooLittleRoom_58 : decode cX0_hasTooLittleRoom 58 = .ok (.iconst (-1), 1) := by decide +kernel
theorem dX0_hasTooLittleRoom_59 : decode cX0_hasTooLittleRoom 59 = .ok (.ixor, 1) := by decide +kernel
theorem dX0_hasTooLittleRoom_60 : decode cX0_hasTooLittleRoom 60 = .ok (.iand, 1) := by decide +kernel
theorem dX0_hasTooLittleRoom_61 : decode cX0_hasTooLittleRoom 61 = .ok (.istore_n 3, 1) := by decide +kernel
theorem dX0_hasTooLittleRoom_62 : decode cX0_hasTooLittleRoom 62 = .ok (.iinc 4 1, 3) := by decide +kernel
theorem dX0_hasTooLittleRoom_65 : decode cX0_hasTooLittleRoom 65 = .ok (.goto (-45), 3) := by decide +kernel
theorem dX0_hasTooLittleRoom_68 : decode cX0_hasTooLittleRoom 68 = .ok (.iconst 0, 1) := by decide +kernel
theorem dX0_hasTooLittleRoom_69 : decode cX0_hasTooLittleRoom 69 = .ok (.ireturn, 1) := by decide +kernel
set_option maxRecDepth 20000 in
theorem ggX0_canTake_X0_emptyCells : GoodIn wsX0_canTake wsX0_emptyCells := goodIn_r _ [5, 6, 7, 8, 4, 9, 10, 55, 56, 57, 58, 59] (by decide +kernel) (by decide +kernel)
set_option maxRecDepth 20000 in
theorem gX0_canTake_X0_emptyCells : GoodIn wsX0_canTake (wsV RX0 54 RX0 yX0_emptyCells wsX0_emptyCells) := goodIn_app (goodIn_of _ (by decide +kernel)) ggX0_canTake_X0_emptyCells
set_option maxRecDepth 20000 in
theorem ggX0_canTake_X0_has : GoodIn wsX0_canTake wsX0_has := goodIn_r _ [13, 14, 15, 4, 16] (by decide +kernel) (by decide +kernel)
set_option maxRecDepth 20000 in
theorem gX0_canTake_X0_has : GoodIn wsX0_canTake (va_wsS RX0 47 yX0_has wsX0_has) := goodIn_app (goodIn_of _ (by decide +kernel)) ggX0_canTake_X0_has
set_option maxRecDepth 20000 in
theorem ggX0_canTake_X0_write : GoodIn wsX0_canTake wsX0_write := goodIn_r _ [20, 10, 14, 15, 4, 16, 55, 56, 57, 58, 59] (by decide +kernel) (by decide +kernel)
set_option maxRecDepth 20000 in
theorem gX0_canTake_X0_write : GoodIn wsX0_canTake (wsV RX0 75 RX0 yX0_write wsX0_write) := goodIn_app (goodIn_of _ (by decide +kernel)) ggX0_canTake_X0_write
set_option maxRecDepth 20000 in
theorem ggX0_canTake_X0_fieldOf : GoodIn wsX0_canTake wsX0_fieldOf := goodIn_r _ [24, 25, 26, 27, 4, 28, 10, 11, 12, 13, 14, 15, 16, 6, 7, 8, 9, 29, 30, 31, 32, 33, 34, 35, 36, 37, 38, 39, 40, 55, 56, 57, 58, 59] (by decide +kernel) (by decide +kernel)
set_option maxRecDepth 20000 in
theorem gX0_canTake_X0_fieldOf : GoodIn wsX0_canTake (wsV RX0 78 RX0 yX0_fieldOf wsX0_fieldOf) := goodIn_app (goodIn_of _ (by decide +kernel)) ggX0_canTake_X0_fieldOf
set_option maxRecDepth 20000 in
theorem ggX0_canTake_J6_bitCount_0f7a4 : GoodIn wsX0_canTake wsJ6_bitCount_0f7a4 := goodIn_r _ [44, 45, 46, 47] (by decide +kernel) (by decide +kernel)
set_option maxRecDepth 20000 in
theorem gX0_canTake_J6_bitCount_0f7a4 : GoodIn wsX0_canTake (va_wsS RX0 39 yJ6_bitCount_0f7a4 wsJ6_bitCount_0f7a4) := goodIn_app (goodIn_of _ (by decide +kernel)) ggX0_canTake_J6_bitCount_0f7a4
set_option maxRecDepth 20000 in
theorem ggX0_canTake_X0_hasTooLittleRoom : GoodIn wsX0_canTake wsX0_hasTooLittleRoom := goodIn_r _ [51, 6, 7, 8, 4, 9, 10, 1, 2, 3, 5, 52, 53, 54, 29, 30, 31, 32, 33, 34, 35, 36, 37, 38, 39, 40, 41, 42, 43, 44, 45, 46, 47, 55, 56, 57, 58, 59] (by decide +kernel) (by decide +kernel)
set_option maxRecDepth 20000 in
theorem gX0_canTake_X0_hasTooLittleRoom : GoodIn wsX0_canTake (wsV RX0 69 RX0 yX0_hasTooLittleRoom wsX0_hasTooLittleRoom) := goodIn_app (goodIn_of _ (by decide +kernel)) ggX0_canTake_X0_hasTooLittleRoom
theorem dX0_canTake_0 : decode cX0_canTake 0 = .ok (.aload_n 0, 1) := by decide +kernel
theorem dX0_canTake_1 : decode cX0_canTake 1 = .ok (.invokevirtual 54, 3) := by decide +kernel
theorem dX0_canTake_4 : decode cX0_canTake 4 = .ok (.iload_n 1, 1) := by decide +kernel
theorem dX0_canTake_5 : decode cX0_canTake 5 = .ok (.invokestatic 47, 3) := by decide +kernel
theorem dX0_canTake_8 : decode cX0_canTake 8 = .ok (.ifCond .ne 5, 3) := by decide +kernel
theorem dX0_canTake_11 : decode cX0_canTake 11 = .ok (.iconst 0, 1) := by decide +kernel
theorem dX0_canTake_12 : decode cX0_canTake 12 = .ok (.ireturn, 1) := by decide +kernel
theorem dX0_canTake_13 : decode cX0_canTake 13 = .ok (.aload_n 0, 1) := by decide +kernel
theorem dX0_canTake_14 : decode cX0_canTake 14 = .ok (.iload_n 1, 1) := by decide +kernel
theorem dX0_canTake_15 : decode cX0_canTake 15 = .ok (.iload_n 2, 1) := by decide +kernel
theorem dX0_canTake_16 : decode cX0_canTake 16 = .ok (.invokevirtual 75, 3) := by decide +kernel
theorem dX0_canTake_19 : decode cX0_canTake 19 = .ok (.aload_n 0, 1) := by decide +kernel
theorem dX0_canTake_20 : decode cX0_canTake 20 = .ok (.iload_n 1, 1) := by decide +kernel
theorem dX0_canTake_21 : decode cX0_canTake 21 = .ok (.invokevirtual 78, 3) := by decide +kernel
theorem dX0_canTake_24 : decode cX0_canTake 24 = .ok (.invokestatic 39, 3) := by decide +kernel
theorem dX0_canTake_27 : decode cX0_canTake 27 = .ok (.iload_n 2, 1) := by decide +kernel
theorem dX0_canTake_28 : decode cX0_canTake 28 = .ok (.if_icmp .gt 15, 3) := by decide +kernel
theorem dX0_canTake_31 : decode cX0_canTake 31 = .ok (.aload_n 0, 1) := by decide +kernel
theorem dX0_canTake_32 : decode cX0_canTake 32 = .ok (.iload_n 2, 1) := by decide +kernel
theorem dX0_canTake_33 : decode cX0_canTake 33 = .ok (.invokevirtual 69, 3) := by decide +kernel
theorem dX0_canTake_36 : decode cX0_canTake 36 = .ok (.ifCond .ne 7, 3) := by decide +kernel
theorem dX0_canTake_39 : decode cX0_canTake 39 = .ok (.iconst 1, 1) := by decide +kernel
theorem dX0_canTake_40 : decode cX0_canTake 40 = .ok (.goto 4, 3) := by decide +kernel
theorem dX0_canTake_43 : decode cX0_canTake 43 = .ok (.iconst 0, 1) := by decide +kernel
theorem dX0_canTake_44 : decode cX0_canTake 44 = .ok (.istore_n 3, 1) := by decide +kernel
theorem dX0_canTake_45 : decode cX0_canTake 45 = .ok (.iconst 1, 1) := by decide +kernel
theorem dX0_canTake_46 : decode cX0_canTake 46 = .ok (.istore 4, 2) := by decide +kernel
theorem dX0_canTake_48 : decode cX0_canTake 48 = .ok (.iload 4, 2) := by decide +kernel
theorem dX0_canTake_50 : decode cX0_canTake 50 = .ok (.bipush 9, 2) := by decide +kernel
theorem dX0_canTake_52 : decode cX0_canTake 52 = .ok (.if_icmp .gt 34, 3) := by decide +kernel
theorem dX0_canTake_55 : decode cX0_canTake 55 = .ok (.iload_n 3, 1) := by decide +kernel
theorem dX0_canTake_56 : decode cX0_canTake 56 = .ok (.ifCond .eq 30, 3) := by decide +kernel
theorem dX0_canTake_59 : decode cX0_canTake 59 = .ok (.iload 4, 2) := by decide +kernel
theorem dX0_canTake_61 : decode cX0_canTake 61 = .ok (.iload_n 2, 1) := by decide +kernel
theorem dX0_canTake_62 : decode cX0_canTake 62 = .ok (.if_icmp .eq 12, 3) := by decide +kernel
theorem dX0_canTake_65 : decode cX0_canTake 65 = .ok (.aload_n 0, 1) := by decide +kernel
theorem dX0_canTake_66 : decode cX0_canTake 66 = .ok (.iload 4, 2) := by decide +kernel
theorem dX0_canTake_68 : decode cX0_canTake 68 = .ok (.invokevirtual 69, 3) := by decide +kernel
theorem dX0_canTake_71 : decode cX0_canTake 71 = .ok (.ifCond .ne 7, 3) := by decide +kernel
theorem dX0_canTake_74 : decode cX0_canTake 74 = .ok (.iconst 1, 1) := by decide +kernel
theorem dX0_canTake_75 : decode cX0_canTake 75 = .ok (.goto 4, 3) := by decide +kernel
theorem dX0_canTake_78 : decode cX0_canTake 78 = .ok (.iconst 0, 1) := by decide +kernel
theorem dX0_canTake_79 : decode cX0_canTake 79 = .ok (.istore_n 3, 1) := by decide +kernel
theorem dX0_canTake_80 : decode cX0_canTake 80 = .ok (.iinc 4 1, 3) := by decide +kernel
theorem dX0_canTake_83 : decode cX0_canTake 83 = .ok (.goto (-35), 3) := by decide +kernel
theorem dX0_canTake_86 : decode cX0_canTake 86 = .ok (.aload_n 0, 1) := by decide +kernel
theorem dX0_canTake_87 : decode cX0_canTake 87 = .ok (.iload_n 1, 1) := by decide +kernel
theorem dX0_canTake_88 : decode cX0_canTake 88 = .ok (.iconst 0, 1) := by decide +kernel
theorem dX0_canTake_89 : decode cX0_canTake 89 = .ok (.invokevirtual 75, 3) := by decide +kernel
theorem dX0_canTake_92 : decode cX0_canTake 92 = .ok (.iload_n 3, 1) := by decide +kernel
theorem dX0_canTake_93 : decode cX0_canTake 93 = .ok (.ireturn, 1) := by decide +kernel
set_option maxRecDepth 20000 in
theorem ggX0_leavesEnough_X0_cellsWith : GoodIn wsX0_leavesEnough wsX0_cellsWith := goodIn_r _ [5, 6, 22, 23, 24, 25, 26] (by decide +kernel) (by decide +kernel)
set_option maxRecDepth 20000 in
theorem gX0_leavesEnough_X0_cellsWith : GoodIn wsX0_leavesEnough (wsV RX0 44 RX0 yX0_cellsWith wsX0_cellsWith) := goodIn_app (goodIn_of _ (by decide +kernel)) ggX0_leavesEnough_X0_cellsWith
set_option maxRecDepth 20000 in
theorem ggX0_leavesEnough_J6_bitCount_0f7a4 : GoodIn wsX0_leavesEnough wsJ6_bitCount_0f7a4 := goodIn_r _ [10, 11, 12, 13] (by decide +kernel) (by decide +kernel)
set_option maxRecDepth 20000 in
theorem gX0_leavesEnough_J6_bitCount_0f7a4 : GoodIn wsX0_leavesEnough (va_wsS RX0 39 yJ6_bitCount_0f7a4 wsJ6_bitCount_0f7a4) := goodIn_app (goodIn_of _ (by decide +kernel)) ggX0_leavesEnough_J6_bitCount_0f7a4
set_option maxRecDepth 20000 in
theorem ggX0_leavesEnough_J9_floorMod_7cf53 : GoodIn wsX0_leavesEnough wsJ9_floorMod_7cf53 := goodIn_r _ [17] (by decide +kernel) (by decide +kernel)
set_option maxRecDepth 20000 in
theorem gX0_leavesEnough_J9_floorMod_7cf53 : GoodIn wsX0_leavesEnough (va_wsS RX0 81 yJ9_floorMod_7cf53 wsJ9_floorMod_7cf53) := goodIn_app (goodIn_of _ (by decide +kernel)) ggX0_leavesEnough_J9_floorMod_7cf53
set_option maxRecDepth 20000 in
theorem ggX0_leavesEnough_X0_emptyCells : GoodIn wsX0_leavesEnough wsX0_emptyCells := goodIn_r _ [21, 1, 2, 3, 4, 5, 6, 22, 23, 24, 25, 26] (by decide +kernel) (by decide +kernel)
set_option maxRecDepth 20000 in
theorem gX0_leavesEnough_X0_emptyCells : GoodIn wsX0_leavesEnough (wsV RX0 54 RX0 yX0_emptyCells wsX0_emptyCells) := goodIn_app (goodIn_of _ (by decide +kernel)) ggX0_leavesEnough_X0_emptyCells
theorem dX0_leavesEnough_0 : decode cX0_leavesEnough 0 = .ok (.iconst 0, 1) := by decide +kernel
theorem dX0_leavesEnough_1 : decode cX0_leavesEnough 1 = .ok (.istore_n 2, 1) := by decide +kernel
theorem dX0_leavesEnough_2 : decode cX0_leavesEnough 2 = .ok (.iconst 1, 1) := by decide +kernel
theorem dX0_leavesEnough_3 : decode cX0_leavesEnough 3 = .ok (.istore_n 3, 1) := by decide +kernel
theorem dX0_leavesEnough_4 : decode cX0_leavesEnough 4 = .ok (.iload_n 3, 1) := by decide +kernel
theorem dX0_leavesEnough_5 : decode cX0_leavesEnough 5 = .ok (.bipush 9, 2) := by decide +kernel
theorem dX0_leavesEnough_7 : decode cX0_leavesEnough 7 = .ok (.if_icmp .gt 40, 3) := by decide +kernel
theorem dX0_leavesEnough_10 : decode cX0_leavesEnough 10 = .ok (.aload_n 0, 1) := by decide +kernel
theorem dX0_leavesEnough_11 : decode cX0_leavesEnough 11 = .ok (.iload_n 3, 1) := by decide +kernel
theorem dX0_leavesEnough_12 : decode cX0_leavesEnough 12 = .ok (.invokevirtual 44, 3) := by decide +kernel
theorem dX0_leavesEnough_15 : decode cX0_leavesEnough 15 = .ok (.invokestatic 39, 3) := by decide +kernel
theorem dX0_leavesEnough_18 : decode cX0_leavesEnough 18 = .ok (.iload_n 3, 1) := by decide +kernel
theorem dX0_leavesEnough_19 : decode cX0_leavesEnough 19 = .ok (.iload_n 1, 1) := by decide +kernel
theorem dX0_leavesEnough_20 : decode cX0_leavesEnough 20 = .ok (.if_icmp .ne 7, 3) := by decide +kernel
theorem dX0_leavesEnough_23 : decode cX0_leavesEnough 23 = .ok (.iconst 1, 1) := by decide +kernel
theorem dX0_leavesEnough_24 : decode cX0_leavesEnough 24 = .ok (.goto 4, 3) := by decide +kernel
theorem dX0_leavesEnough_27 : decode cX0_leavesEnough 27 = .ok (.iconst 0, 1) := by decide +kernel
theorem dX0_leavesEnough_28 : decode cX0_leavesEnough 28 = .ok (.iadd, 1) := by decide +kernel
theorem dX0_leavesEnough_29 : decode cX0_leavesEnough 29 = .ok (.istore 4, 2) := by decide +kernel
theorem dX0_leavesEnough_31 : decode cX0_leavesEnough 31 = .ok (.iload_n 2, 1) := by decide +kernel
theorem dX0_leavesEnough_32 : decode cX0_leavesEnough 32 = .ok (.iload 4, 2) := by decide +kernel
theorem dX0_leavesEnough_34 : decode cX0_leavesEnough 34 = .ok (.ineg, 1) := by decide +kernel
theorem dX0_leavesEnough_35 : decode cX0_leavesEnough 35 = .ok (.iload_n 3, 1) := by decide +kernel
theorem dX0_leavesEnough_36 : decode cX0_leavesEnough 36 = .ok (.invokestatic 81, 3) := by decide +kernel
theorem dX0_leavesEnough_39 : decode cX0_leavesEnough 39 = .ok (.iadd, 1) := by decide +kernel
theorem dX0_leavesEnough_40 : decode cX0_leavesEnough 40 = .ok (.istore_n 2, 1) := by decide +kernel
theorem dX0_leavesEnough_41 : decode cX0_leavesEnough 41 = .ok (.iinc 3 1, 3) := by decide +kernel
theorem dX0_leavesEnough_44 : decode cX0_leavesEnough 44 = .ok (.goto (-40), 3) := by decide +kernel
theorem dX0_leavesEnough_47 : decode cX0_leavesEnough 47 = .ok (.iload_n 2, 1) := by decide +kernel
theorem dX0_leavesEnough_48 : decode cX0_leavesEnough 48 = .ok (.aload_n 0, 1) := by decide +kernel
theorem dX0_leavesEnough_49 : decode cX0_leavesEnough 49 = .ok (.invokevirtual 54, 3) := by decide +kernel
theorem dX0_leavesEnough_52 : decode cX0_leavesEnough 52 = .ok (.invokestatic 39, 3) := by decide +kernel
theorem dX0_leavesEnough_55 : decode cX0_leavesEnough 55 = .ok (.if_icmp .ge 7, 3) := by decide +kernel
theorem dX0_leavesEnough_58 : decode cX0_leavesEnough 58 = .ok (.iconst 1, 1) := by decide +kernel
theorem dX0_leavesEnough_59 : decode cX0_leavesEnough 59 = .ok (.goto 4, 3) := by decide +kernel
theorem dX0_leavesEnough_62 : decode cX0_leavesEnough 62 = .ok (.iconst 0, 1) := by decide +kernel
theorem dX0_leavesEnough_63 : decode cX0_leavesEnough 63 = .ok (.ireturn, 1) := by decide +kernel
set_option maxRecDepth 20000 in
theorem ggX0_hiddenCells_X0_cellsWith : GoodIn wsX0_hiddenCells wsX0_cellsWith := goodIn_r _ [5, 6, 33, 34, 35, 36, 37] (by decide +kernel) (by decide +kernel)
set_option maxRecDepth 20000 in
theorem gX0_hiddenCells_X0_cellsWith : GoodIn wsX0_hiddenCells (wsV RX0 44 RX0 yX0_cellsWith wsX0_cellsWith) := goodIn_app (goodIn_of _ (by decide +kernel)) ggX0_hiddenCells_X0_cellsWith
set_option maxRecDepth 20000 in
theorem ggX0_hiddenCells_X0_lowest : GoodIn wsX0_hiddenCells wsX0_lowest := goodIn_r _ [9] (by decide +kernel) (by decide +kernel)
set_option maxRecDepth 20000 in
theorem gX0_hiddenCells_X0_lowest : GoodIn wsX0_hiddenCells (va_wsS RX0 72 yX0_lowest wsX0_lowest) := goodIn_app (goodIn_of _ (by decide +kernel)) ggX0_hiddenCells_X0_lowest
set_option maxRecDepth 20000 in
theorem ggX0_hiddenCells_X0_spread : GoodIn wsX0_hiddenCells wsX0_spread := goodIn_r _ [13, 14, 15, 16, 4, 17, 18, 19, 20, 21, 33, 34, 35, 36, 37] (by decide +kernel) (by decide +kernel)
set_option maxRecDepth 20000 in
theorem gX0_hiddenCells_X0_spread : GoodIn wsX0_hiddenCells (wsV RX0 61 RX0 yX0_spread wsX0_spread) := goodIn_app (goodIn_of _ (by decide +kernel)) ggX0_hiddenCells_X0_spread
set_option maxRecDepth 20000 in
theorem ggX0_hiddenCells_X0_emptyCells : GoodIn wsX0_hiddenCells wsX0_emptyCells := goodIn_r _ [25, 1, 2, 3, 4, 5, 6, 33, 34, 35, 36, 37] (by decide +kernel) (by decide +kernel)
set_option maxRecDepth 20000 in
theorem gX0_hiddenCells_X0_emptyCells : GoodIn wsX0_hiddenCells (wsV RX0 54 RX0 yX0_emptyCells wsX0_emptyCells) := goodIn_app (goodIn_of _ (by decide +kernel)) ggX0_hiddenCells_X0_emptyCells
set_option maxRecDepth 20000 in
theorem ggX0_hiddenCells_J6_bitCount_0f7a4 : GoodIn wsX0_hiddenCells wsJ6_bitCount_0f7a4 := goodIn_r _ [29, 30, 31, 32] (by decide +kernel) (by decide +kernel)
set_option maxRecDepth 20000 in
theorem gX0_hiddenCells_J6_bitCount_0f7a4 : GoodIn wsX0_hiddenCells (va_wsS RX0 39 yJ6_bitCount_0f7a4 wsJ6_bitCount_0f7a4) := goodIn_app (goodIn_of _ (by decide +kernel)) ggX0_hiddenCells_J6_bitCount_0f7a4
theorem dX0_hiddenCells_0 : decode cX0_hiddenCells 0 = .ok (.iconst 0, 1) := by decide +kernel
theorem dX0_hiddenCells_1 : decode cX0_hiddenCells 1 = .ok (.istore_n 1, 1) := by decide +kernel
theorem dX0_hiddenCells_2 : decode cX0_hiddenCells 2 = .ok (.iconst 1, 1) := by decide +kernel
theorem dX0_hiddenCells_3 : decode cX0_hiddenCells 3 = .ok (.istore_n 2, 1) := by decide +kernel
theorem dX0_hiddenCells_4 : decode cX0_hiddenCells 4 = .ok (.iload_n 2, 1) := by decide +kernel
theorem dX0_hiddenCells_5 : decode cX0_hiddenCells 5 = .ok (.bipush 9, 2) := by decide +kernel
theorem dX0_hiddenCells_7 : decode cX0_hiddenCells 7 = .ok (.if_icmp .gt 79, 3) := by decide +kernel
theorem dX0_hiddenCells_10 : decode cX0_hiddenCells 10 = .ok (.aload_n 0, 1) := by decide +kernel
theorem dX0_hiddenCells_11 : decode cX0_hiddenCells 11 = .ok (.iload_n 2, 1) := by decide +kernel
theorem dX0_hiddenCells_12 : decode cX0_hiddenCells 12 = .ok (.invokevirtual 44, 3) := by decide +kernel
theorem dX0_hiddenCells_15 : decode cX0_hiddenCells 15 = .ok (.istore_n 3, 1) := by decide +kernel
theorem dX0_hiddenCells_16 : decode cX0_hiddenCells 16 = .ok (.iconst 0, 1) := by decide +kernel
theorem dX0_hiddenCells_17 : decode cX0_hiddenCells 17 = .ok (.istore 4, 2) := by decide +kernel
theorem dX0_hiddenCells_19 : decode cX0_hiddenCells 19 = .ok (.iload 4, 2) := by decide +kernel
theorem dX0_hiddenCells_21 : decode cX0_hiddenCells 21 = .ok (.bipush 12, 2) := by decide +kernel
theorem dX0_hiddenCells_23 : decode cX0_hiddenCells 23 = .ok (.if_icmp .ge 57, 3) := by decide +kernel
theorem dX0_hiddenCells_26 : decode cX0_hiddenCells 26 = .ok (.iload_n 3, 1) := by decide +kernel
theorem dX0_hiddenCells_27 : decode cX0_hiddenCells 27 = .ok (.ifCond .eq 53, 3) := by decide +kernel
theorem dX0_hiddenCells_30 : decode cX0_hiddenCells 30 = .ok (.aload_n 0, 1) := by decide +kernel
theorem dX0_hiddenCells_31 : decode cX0_hiddenCells 31 = .ok (.iload_n 3, 1) := by decide +kernel
theorem dX0_hiddenCells_32 : decode cX0_hiddenCells 32 = .ok (.invokestatic 72, 3) := by decide +kernel
theorem dX0_hiddenCells_35 : decode cX0_hiddenCells 35 = .ok (.aload_n 0, 1) := by decide +kernel
theorem dX0_hiddenCells_36 : decode cX0_hiddenCells 36 = .ok (.iload_n 2, 1) := by decide +kernel
theorem dX0_hiddenCells_37 : decode cX0_hiddenCells 37 = .ok (.invokevirtual 44, 3) := by decide +kernel
theorem dX0_hiddenCells_40 : decode cX0_hiddenCells 40 = .ok (.bipush 12, 2) := by decide +kernel
theorem dX0_hiddenCells_42 : decode cX0_hiddenCells 42 = .ok (.invokevirtual 61, 3) := by decide +kernel
theorem dX0_hiddenCells_45 : decode cX0_hiddenCells 45 = .ok (.istore 5, 2) := by decide +kernel
theorem dX0_hiddenCells_47 : decode cX0_hiddenCells 47 = .ok (.iload_n 1, 1) := by decide +kernel
theorem dX0_hiddenCells_48 : decode cX0_hiddenCells 48 = .ok (.aload_n 0, 1) := by decide +kernel
theorem dX0_hiddenCells_49 : decode cX0_hiddenCells 49 = .ok (.iload 5, 2) := by decide +kernel
theorem dX0_hiddenCells_51 : decode cX0_hiddenCells 51 = .ok (.aload_n 0, 1) := by decide +kernel
theorem dX0_hiddenCells_52 : decode cX0_hiddenCells 52 = .ok (.invokevirtual 54, 3) := by decide +kernel
theorem dX0_hiddenCells_55 : decode cX0_hiddenCells 55 = .ok (.iload_n 2, 1) := by decide +kernel
theorem dX0_hiddenCells_56 : decode cX0_hiddenCells 56 = .ok (.iload 5, 2) := by decide +kernel
theorem dX0_hiddenCells_58 : decode cX0_hiddenCells 58 = .ok (.invokestatic 39, 3) := by decide +kernel
theorem dX0_hiddenCells_61 : decode cX0_hiddenCells 61 = .ok (.isub, 1) := by decide +kernel
theorem dX0_hiddenCells_62 : decode cX0_hiddenCells 62 = .ok (.invokevirtual 61, 3) := by decide +kernel
theorem dX0_hiddenCells_65 : decode cX0_hiddenCells 65 = .ok (.ior, 1) := by decide +kernel
theorem dX0_hiddenCells_66 : decode cX0_hiddenCells 66 = .ok (.istore_n 1, 1) := by decide +kernel
theorem dX0_hiddenCells_67 : decode cX0_hiddenCells 67 = .ok (.iload_n 3, 1) := by decide +kernel
theorem dX0_hiddenCells_68 : decode cX0_hiddenCells 68 = .ok (.iload 5, 2) := by decide +kernel
theorem dX0_hiddenCells_70 : decode cX0_hiddenCells 70 = .ok (.iconst (-1), 1) := by decide +kernel
theorem dX0_hiddenCells_71 : decode cX0_hiddenCells 71 = .ok (.ixor, 1) := by decide +kernel
theorem dX0_hiddenCells_72 : decode cX0_hiddenCells 72 = .ok (.iand, 1) := by decide +kernel
theorem dX0_hiddenCells_73 : decode cX0_hiddenCells 73 = .ok (.istore_n 3, 1) := by decide +kernel
theorem dX0_hiddenCells_74 : decode cX0_hiddenCells 74 = .ok (.iinc 4 1, 3) := by decide +kernel
theorem dX0_hiddenCells_77 : decode cX0_hiddenCells 77 = .ok (.goto (-58), 3) := by decide +kernel
theorem dX0_hiddenCells_80 : decode cX0_hiddenCells 80 = .ok (.iinc 2 1, 3) := by decide +kernel
theorem dX0_hiddenCells_83 : decode cX0_hiddenCells 83 = .ok (.goto (-79), 3) := by decide +kernel
theorem dX0_hiddenCells_86 : decode cX0_hiddenCells 86 = .ok (.aload_n 0, 1) := by decide +kernel
theorem dX0_hiddenCells_87 : decode cX0_hiddenCells 87 = .ok (.invokevirtual 54, 3) := by decide +kernel
theorem dX0_hiddenCells_90 : decode cX0_hiddenCells 90 = .ok (.iload_n 1, 1) := by decide +kernel
theorem dX0_hiddenCells_91 : decode cX0_hiddenCells 91 = .ok (.iconst (-1), 1) := by decide +kernel
theorem dX0_hiddenCells_92 : decode cX0_hiddenCells 92 = .ok (.ixor, 1) := by decide +kernel
theorem dX0_hiddenCells_93 : decode cX0_hiddenCells 93 = .ok (.iand, 1) := by decide +kernel
theorem dX0_hiddenCells_94 : decode cX0_hiddenCells 94 = .ok (.ireturn, 1) := by decide +kernel
set_option maxRecDepth 20000 in
theorem ggX0_isShape_J6_bitCount_0f7a4 : GoodIn wsX0_isShape wsJ6_bitCount_0f7a4 := goodIn_r _ [4, 5, 6, 7] (by decide +kernel) (by decide +kernel)
set_option maxRecDepth 20000 in
theorem gX0_isShape_J6_bitCount_0f7a4 : GoodIn wsX0_isShape (va_wsS RX0 39 yJ6_bitCount_0f7a4 wsJ6_bitCount_0f7a4) := goodIn_app (goodIn_of _ (by decide +kernel)) ggX0_isShape_J6_bitCount_0f7a4
set_option maxRecDepth 20000 in
theorem ggX0_isShape_X0_beside : GoodIn wsX0_isShape wsX0_beside := goodIn_r _ [12, 13, 14, 15, 16, 29, 30, 31, 32, 33] (by decide +kernel) (by decide +kernel)
set_option maxRecDepth 20000 in
theorem gX0_isShape_X0_beside : GoodIn wsX0_isShape (wsV RX0 51 RX0 yX0_beside wsX0_beside) := goodIn_app (goodIn_of _ (by decide +kernel)) ggX0_isShape_X0_beside
set_option maxRecDepth 20000 in
theorem ggX0_isShape_X0_cellsWith : GoodIn wsX0_isShape wsX0_cellsWith := goodIn_r _ [20, 21, 29, 30, 31, 32, 33] (by decide +kernel) (by decide +kernel)
set_option maxRecDepth 20000 in
theorem gX0_isShape_X0_cellsWith : GoodIn wsX0_isShape (wsV RX0 44 RX0 yX0_cellsWith wsX0_cellsWith) := goodIn_app (goodIn_of _ (by decide +kernel)) ggX0_isShape_X0_cellsWith
set_option maxRecDepth 20000 in
theorem ggX0_isShape_X0_lowest : GoodIn wsX0_isShape wsX0_lowest := goodIn_r _ [24] (by decide +kernel) (by decide +kernel)
set_option maxRecDepth 20000 in
theorem gX0_isShape_X0_lowest : GoodIn wsX0_isShape (va_wsS RX0 72 yX0_lowest wsX0_lowest) := goodIn_app (goodIn_of _ (by decide +kernel)) ggX0_isShape_X0_lowest
set_option maxRecDepth 20000 in
theorem ggX0_isShape_X0_spread : GoodIn wsX0_isShape wsX0_spread := goodIn_r _ [28, 8, 9, 10, 11, 12, 13, 14, 15, 16, 29, 30, 31, 32, 33] (by decide +kernel) (by decide +kernel)
set_option maxRecDepth 20000 in
theorem gX0_isShape_X0_spread : GoodIn wsX0_isShape (wsV RX0 61 RX0 yX0_spread wsX0_spread) := goodIn_app (goodIn_of _ (by decide +kernel)) ggX0_isShape_X0_spread
theorem dX0_isShape_0 : decode cX0_isShape 0 = .ok (.iload_n 1, 1) := by decide +kernel
theorem dX0_isShape_1 : decode cX0_isShape 1 = .ok (.invokestatic 39, 3) := by decide +kernel
theorem dX0_isShape_4 : decode cX0_isShape 4 = .ok (.iload_n 2, 1) := by decide +kernel
theorem dX0_isShape_5 : decode cX0_isShape 5 = .ok (.if_icmp .ne 40, 3) := by decide +kernel
theorem dX0_isShape_8 : decode cX0_isShape 8 = .ok (.aload_n 0, 1) := by decide +kernel
theorem dX0_isShape_9 : decode cX0_isShape 9 = .ok (.iload_n 1, 1) := by decide +kernel
theorem dX0_isShape_10 : decode cX0_isShape 10 = .ok (.invokevirtual 51, 3) := by decide +kernel
theorem dX0_isShape_13 : decode cX0_isShape 13 = .ok (.iload_n 1, 1) := by decide +kernel
theorem dX0_isShape_14 : decode cX0_isShape 14 = .ok (.iconst (-1), 1) := by decide +kernel
theorem dX0_isShape_15 : decode cX0_isShape 15 = .ok (.ixor, 1) := by decide +kernel
theorem dX0_isShape_16 : decode cX0_isShape 16 = .ok (.iand, 1) := by decide +kernel
theorem dX0_isShape_17 : decode cX0_isShape 17 = .ok (.aload_n 0, 1) := by decide +kernel
theorem dX0_isShape_18 : decode cX0_isShape 18 = .ok (.iload_n 2, 1) := by decide +kernel
theorem dX0_isShape_19 : decode cX0_isShape 19 = .ok (.invokevirtual 44, 3) := by decide +kernel
theorem dX0_isShape_22 : decode cX0_isShape 22 = .ok (.iand, 1) := by decide +kernel
theorem dX0_isShape_23 : decode cX0_isShape 23 = .ok (.ifCond .ne 22, 3) := by decide +kernel
theorem dX0_isShape_26 : decode cX0_isShape 26 = .ok (.aload_n 0, 1) := by decide +kernel
theorem dX0_isShape_27 : decode cX0_isShape 27 = .ok (.iload_n 1, 1) := by decide +kernel
theorem dX0_isShape_28 : decode cX0_isShape 28 = .ok (.invokestatic 72, 3) := by decide +kernel
theorem dX0_isShape_31 : decode cX0_isShape 31 = .ok (.iload_n 1, 1) := by decide +kernel
theorem dX0_isShape_32 : decode cX0_isShape 32 = .ok (.bipush 12, 2) := by decide +kernel
theorem dX0_isShape_34 : decode cX0_isShape 34 = .ok (.invokevirtual 61, 3) := by decide +kernel
theorem dX0_isShape_37 : decode cX0_isShape 37 = .ok (.iload_n 1, 1) := by decide +kernel
theorem dX0_isShape_38 : decode cX0_isShape 38 = .ok (.if_icmp .ne 7, 3) := by decide +kernel
theorem dX0_isShape_41 : decode cX0_isShape 41 = .ok (.iconst 1, 1) := by decide +kernel
theorem dX0_isShape_42 : decode cX0_isShape 42 = .ok (.goto 4, 3) := by decide +kernel
theorem dX0_isShape_45 : decode cX0_isShape 45 = .ok (.iconst 0, 1) := by decide +kernel
theorem dX0_isShape_46 : decode cX0_isShape 46 = .ok (.ireturn, 1) := by decide +kernel
theorem dX1_init_0 : decode cX1_init 0 = .ok (.aload_n 0, 1) := by decide +kernel
theorem dX1_init_1 : decode cX1_init 1 = .ok (.invokespecial 1, 3) := by decide +kernel
theorem dX1_init_4 : decode cX1_init 4 = .ok (.aload_n 0, 1) := by decide +kernel
theorem dX1_init_5 : decode cX1_init 5 = .ok (.iload_n 1, 1) := by decide +kernel
theorem dX1_init_6 : decode cX1_init 6 = .ok (.i2l, 1) := by decide +kernel
theorem dX1_init_7 : decode cX1_init 7 = .ok (.putfield 7, 3) := by decide +kernel
theorem dX1_init_10 : decode cX1_init 10 = .ok (.return_, 1) := by decide +kernel
theorem dX1_nextBelow_0 : decode cX1_nextBelow 0 = .ok (.aload_n 0, 1) := by decide +kernel
theorem dX1_nextBelow_1 : decode cX1_nextBelow 1 = .ok (.aload_n 0, 1) := by decide +kernel
theorem dX1_nextBelow_2 : decode cX1_nextBelow 2 = .ok (.getfield 7, 3) := by decide +kernel
theorem dX1_nextBelow_5 : decode cX1_nextBelow 5 = .ok (.ldc2_w 13, 3) := by decide +kernel
theorem dX1_nextBelow_8 : decode cX1_nextBelow 8 = .ok (.lmul, 1) := by decide +kernel
theorem dX1_nextBelow_9 : decode cX1_nextBelow 9 = .ok (.ldc2_w 15, 3) := by decide +kernel
theorem dX1_nextBelow_12 : decode cX1_nextBelow 12 = .ok (.ladd, 1) := by decide +kernel
theorem dX1_nextBelow_13 : decode cX1_nextBelow 13 = .ok (.ldc2_w 17, 3) := by decide +kernel
theorem dX1_nextBelow_16 : decode cX1_nextBelow 16 = .ok (.lrem, 1) := by decide +kernel
theorem dX1_nextBelow_17 : decode cX1_nextBelow 17 = .ok (.putfield 7, 3) := by decide +kernel
theorem dX1_nextBelow_20 : decode cX1_nextBelow 20 = .ok (.iload_n 1, 1) := by decide +kernel
theorem dX1_nextBelow_21 : decode cX1_nextBelow 21 = .ok (.ifCond .le 18, 3) := by decide +kernel
theorem dX1_nextBelow_24 : decode cX1_nextBelow 24 = .ok (.aload_n 0, 1) := by decide +kernel
theorem dX1_nextBelow_25 : decode cX1_nextBelow 25 = .ok (.getfield 7, 3) := by decide +kernel
theorem dX1_nextBelow_28 : decode cX1_nextBelow 28 = .ok (.ldc2_w 19, 3) := by decide +kernel
theorem dX1_nextBelow_31 : decode cX1_nextBelow 31 = .ok (.ldiv, 1) := by decide +kernel
theorem dX1_nextBelow_32 : decode cX1_nextBelow 32 = .ok (.iload_n 1, 1) := by decide +kernel
theorem dX1_nextBelow_33 : decode cX1_nextBelow 33 = .ok (.i2l, 1) := by decide +kernel
theorem dX1_nextBelow_34 : decode cX1_nextBelow 34 = .ok (.lrem, 1) := by decide +kernel
theorem dX1_nextBelow_35 : decode cX1_nextBelow 35 = .ok (.l2i, 1) := by decide +kernel
theorem dX1_nextBelow_36 : decode cX1_nextBelow 36 = .ok (.goto 4, 3) := by decide +kernel
theorem dX1_nextBelow_39 : decode cX1_nextBelow 39 = .ok (.iconst 0, 1) := by decide +kernel
theorem dX1_nextBelow_40 : decode cX1_nextBelow 40 = .ok (.ireturn, 1) := by decide +kernel
theorem dX2_init_0 : decode cX2_init 0 = .ok (.aload_n 0, 1) := by decide +kernel
theorem dX2_init_1 : decode cX2_init 1 = .ok (.invokespecial 3, 3) := by decide +kernel
theorem dX2_init_4 : decode cX2_init 4 = .ok (.aload_n 0, 1) := by decide +kernel
theorem dX2_init_5 : decode cX2_init 5 = .ok (.bipush 12, 2) := by decide +kernel
theorem dX2_init_7 : decode cX2_init 7 = .ok (.newarray .int, 2) := by decide +kernel
theorem dX2_init_9 : decode cX2_init 9 = .ok (.putfield 9, 3) := by decide +kernel
theorem dX2_init_12 : decode cX2_init 12 = .ok (.aload_n 0, 1) := by decide +kernel
theorem dX2_init_13 : decode cX2_init 13 = .ok (.iconst 0, 1) := by decide +kernel
theorem dX2_init_14 : decode cX2_init 14 = .ok (.putfield 15, 3) := by decide +kernel
theorem dX2_init_17 : decode cX2_init 17 = .ok (.aload_n 0, 1) := by decide +kernel
theorem dX2_init_18 : decode cX2_init 18 = .ok (.iconst 0, 1) := by decide +kernel
theorem dX2_init_19 : decode cX2_init 19 = .ok (.putfield 19, 3) := by decide +kernel
theorem dX2_init_22 : decode cX2_init 22 = .ok (.return_, 1) := by decide +kernel
theorem dX2_forget_0 : decode cX2_forget 0 = .ok (.aload_n 0, 1) := by decide +kernel
theorem dX2_forget_1 : decode cX2_forget 1 = .ok (.iconst 0, 1) := by decide +kernel
theorem dX2_forget_2 : decode cX2_forget 2 = .ok (.putfield 15, 3) := by decide +kernel
theorem dX2_forget_5 : decode cX2_forget 5 = .ok (.aload_n 0, 1) := by decide +kernel
theorem dX2_forget_6 : decode cX2_forget 6 = .ok (.iconst 0, 1) := by decide +kernel
theorem dX2_forget_7 : decode cX2_forget 7 = .ok (.putfield 19, 3) := by decide +kernel
theorem dX2_forget_10 : decode cX2_forget 10 = .ok (.iconst 0, 1) := by decide +kernel
theorem dX2_forget_11 : decode cX2_forget 11 = .ok (.istore_n 1, 1) := by decide +kernel
theorem dX2_forget_12 : decode cX2_forget 12 = .ok (.iload_n 1, 1) := by decide +kernel
