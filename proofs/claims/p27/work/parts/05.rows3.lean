theorem dX5_clear_26 : decode cX5_clear 26 = .ok (.ireturn, 1) := by decide +kernel
set_option maxRecDepth 20000 in
theorem ggX5_multiply_X5_isSum : GoodIn wsX5_multiply wsX5_isSum := goodIn_r _ [6, 7, 8, 5, 9] (by decide +kernel) (by decide +kernel)
set_option maxRecDepth 20000 in
theorem gX5_multiply_X5_isSum : GoodIn wsX5_multiply (va_wsS RX5 79 yX5_isSum wsX5_isSum) := goodIn_app (goodIn_of _ (by decide +kernel)) ggX5_multiply_X5_isSum
set_option maxRecDepth 20000 in
theorem ggX5_multiply_X5_makeProduct : GoodIn wsX5_multiply wsX5_makeProduct := goodIn_r _ [13, 14, 15, 16, 17, 18, 19, 5, 20, 21, 22, 23, 24, 25, 26, 27, 58, 59, 60, 61, 62, 63, 64, 65, 66, 67, 68, 69, 70, 71, 72, 73, 74, 75, 76, 77] (by decide +kernel) (by decide +kernel)
set_option maxRecDepth 20000 in
theorem gX5_multiply_X5_makeProduct : GoodIn wsX5_multiply (wsV RX5 112 RX5 yX5_makeProduct wsX5_makeProduct) := goodIn_app (goodIn_of _ (by decide +kernel)) ggX5_multiply_X5_makeProduct
set_option maxRecDepth 20000 in
theorem ggX5_multiply_X5_termsMade : GoodIn wsX5_multiply wsX5_termsMade := goodIn_r _ [31, 14, 15, 16, 58, 59, 60, 61, 62, 63, 64, 65, 66, 67, 68, 69, 70, 71, 72, 73, 74, 75, 76, 77] (by decide +kernel) (by decide +kernel)
set_option maxRecDepth 20000 in
theorem gX5_multiply_X5_termsMade : GoodIn wsX5_multiply (wsV RX5 116 RX5 yX5_termsMade wsX5_termsMade) := goodIn_app (goodIn_of _ (by decide +kernel)) ggX5_multiply_X5_termsMade
set_option maxRecDepth 20000 in
theorem ggX5_multiply_X5_settle : GoodIn wsX5_multiply wsX5_settle := goodIn_r _ [35, 14, 15, 16, 36, 37, 38, 39, 40, 2, 41, 42, 43, 44, 45, 46, 47, 48, 49, 50, 51, 52, 53, 54, 55, 56, 57, 58, 59, 60, 61, 62, 63, 64, 65, 66, 67, 68, 69, 70, 71, 72, 73, 74, 75, 76, 77, 78, 79, 80, 81] (by decide +kernel) (by decide +kernel)
set_option maxRecDepth 20000 in
theorem gX5_multiply_X5_settle : GoodIn wsX5_multiply (wsV RX5 90 RX5 yX5_settle wsX5_settle) := goodIn_app (goodIn_of _ (by decide +kernel)) ggX5_multiply_X5_settle
theorem dX5_multiply_0 : decode cX5_multiply 0 = .ok (.iload_n 1, 1) := by decide +kernel
theorem dX5_multiply_1 : decode cX5_multiply 1 = .ok (.invokestatic 79, 3) := by decide +kernel
theorem dX5_multiply_4 : decode cX5_multiply 4 = .ok (.ifCond .eq 17, 3) := by decide +kernel
theorem dX5_multiply_7 : decode cX5_multiply 7 = .ok (.iload_n 2, 1) := by decide +kernel
theorem dX5_multiply_8 : decode cX5_multiply 8 = .ok (.invokestatic 79, 3) := by decide +kernel
theorem dX5_multiply_11 : decode cX5_multiply 11 = .ok (.ifCond .eq 10, 3) := by decide +kernel
theorem dX5_multiply_14 : decode cX5_multiply 14 = .ok (.iload_n 3, 1) := by decide +kernel
theorem dX5_multiply_15 : decode cX5_multiply 15 = .ok (.invokestatic 79, 3) := by decide +kernel
theorem dX5_multiply_18 : decode cX5_multiply 18 = .ok (.ifCond .ne 6, 3) := by decide +kernel
theorem dX5_multiply_21 : decode cX5_multiply 21 = .ok (.ldc 67, 2) := by decide +kernel
theorem dX5_multiply_23 : decode cX5_multiply 23 = .ok (.ireturn, 1) := by decide +kernel
theorem dX5_multiply_24 : decode cX5_multiply 24 = .ok (.aload_n 0, 1) := by decide +kernel
theorem dX5_multiply_25 : decode cX5_multiply 25 = .ok (.aload_n 0, 1) := by decide +kernel
theorem dX5_multiply_26 : decode cX5_multiply 26 = .ok (.getfield 17, 3) := by decide +kernel
theorem dX5_multiply_29 : decode cX5_multiply 29 = .ok (.iload_n 2, 1) := by decide +kernel
theorem dX5_multiply_30 : decode cX5_multiply 30 = .ok (.aaload, 1) := by decide +kernel
theorem dX5_multiply_31 : decode cX5_multiply 31 = .ok (.aload_n 0, 1) := by decide +kernel
theorem dX5_multiply_32 : decode cX5_multiply 32 = .ok (.getfield 17, 3) := by decide +kernel
theorem dX5_multiply_35 : decode cX5_multiply 35 = .ok (.iload_n 3, 1) := by decide +kernel
theorem dX5_multiply_36 : decode cX5_multiply 36 = .ok (.aaload, 1) := by decide +kernel
theorem dX5_multiply_37 : decode cX5_multiply 37 = .ok (.invokevirtual 112, 3) := by decide +kernel
theorem dX5_multiply_40 : decode cX5_multiply 40 = .ok (.aload_n 0, 1) := by decide +kernel
theorem dX5_multiply_41 : decode cX5_multiply 41 = .ok (.iload_n 1, 1) := by decide +kernel
theorem dX5_multiply_42 : decode cX5_multiply 42 = .ok (.aload_n 0, 1) := by decide +kernel
theorem dX5_multiply_43 : decode cX5_multiply 43 = .ok (.invokevirtual 116, 3) := by decide +kernel
theorem dX5_multiply_46 : decode cX5_multiply 46 = .ok (.invokevirtual 90, 3) := by decide +kernel
theorem dX5_multiply_49 : decode cX5_multiply 49 = .ok (.ireturn, 1) := by decide +kernel
set_option maxRecDepth 20000 in
theorem ggX5_turn_X5_isSum : GoodIn wsX5_turn wsX5_isSum := goodIn_r _ [9, 10, 11, 8, 12] (by decide +kernel) (by decide +kernel)
set_option maxRecDepth 20000 in
theorem gX5_turn_X5_isSum : GoodIn wsX5_turn (va_wsS RX5 79 yX5_isSum wsX5_isSum) := goodIn_app (goodIn_of _ (by decide +kernel)) ggX5_turn_X5_isSum
set_option maxRecDepth 20000 in
theorem ggX5_turn_X5_isWithin : GoodIn wsX5_turn wsX5_isWithin := goodIn_r _ [12] (by decide +kernel) (by decide +kernel)
set_option maxRecDepth 20000 in
theorem gX5_turn_X5_isWithin : GoodIn wsX5_turn (va_wsS RX5 63 yX5_isWithin wsX5_isWithin) := goodIn_app (goodIn_of _ (by decide +kernel)) ggX5_turn_X5_isWithin
set_option maxRecDepth 20000 in
theorem ggX5_turn_X1_parityOf : GoodIn wsX5_turn wsX1_parityOf := goodIn_r _ [17, 18, 72, 73, 74, 75, 76, 77, 78, 79, 80, 81, 82] (by decide +kernel) (by decide +kernel)
set_option maxRecDepth 20000 in
theorem gX5_turn_X1_parityOf : GoodIn wsX5_turn (wsV RX5 120 RX1 yX1_parityOf wsX1_parityOf) := goodIn_app (goodIn_of _ (by decide +kernel)) ggX5_turn_X1_parityOf
set_option maxRecDepth 20000 in
theorem ggX5_turn_X1_turned : GoodIn wsX5_turn wsX1_turned := goodIn_r _ [22, 23, 24, 25, 26, 27, 28, 16, 29, 30, 31, 32, 33, 34, 35, 36, 72, 73, 74, 75, 76, 77, 78, 79, 80, 81, 82] (by decide +kernel) (by decide +kernel)
set_option maxRecDepth 20000 in
theorem gX5_turn_X1_turned : GoodIn wsX5_turn (wsV RX5 123 RX1 yX1_turned wsX1_turned) := goodIn_app (goodIn_of _ (by decide +kernel)) ggX5_turn_X1_turned
set_option maxRecDepth 20000 in
theorem ggX5_turn_X5_settle : GoodIn wsX5_turn wsX5_settle := goodIn_r _ [40, 3, 4, 5, 41, 42, 43, 44, 45, 2, 46, 47, 48, 49, 50, 51, 52, 53, 54, 55, 56, 57, 58, 59, 60, 61, 62, 63, 64, 65, 66, 67, 68, 69, 70, 71, 72, 73, 74, 75, 76, 77, 78, 79, 80, 81, 82, 83, 84, 85, 86] (by decide +kernel) (by decide +kernel)
set_option maxRecDepth 20000 in
theorem gX5_turn_X5_settle : GoodIn wsX5_turn (wsV RX5 90 RX5 yX5_settle wsX5_settle) := goodIn_app (goodIn_of _ (by decide +kernel)) ggX5_turn_X5_settle
theorem dX5_turn_0 : decode cX5_turn 0 = .ok (.iload_n 1, 1) := by decide +kernel
theorem dX5_turn_1 : decode cX5_turn 1 = .ok (.invokestatic 79, 3) := by decide +kernel
theorem dX5_turn_4 : decode cX5_turn 4 = .ok (.ifCond .eq 12, 3) := by decide +kernel
theorem dX5_turn_7 : decode cX5_turn 7 = .ok (.iload_n 2, 1) := by decide +kernel
theorem dX5_turn_8 : decode cX5_turn 8 = .ok (.iconst 0, 1) := by decide +kernel
theorem dX5_turn_9 : decode cX5_turn 9 = .ok (.iconst 3, 1) := by decide +kernel
theorem dX5_turn_10 : decode cX5_turn 10 = .ok (.invokestatic 63, 3) := by decide +kernel
theorem dX5_turn_13 : decode cX5_turn 13 = .ok (.ifCond .ne 6, 3) := by decide +kernel
theorem dX5_turn_16 : decode cX5_turn 16 = .ok (.ldc 67, 2) := by decide +kernel
theorem dX5_turn_18 : decode cX5_turn 18 = .ok (.ireturn, 1) := by decide +kernel
theorem dX5_turn_19 : decode cX5_turn 19 = .ok (.aload_n 0, 1) := by decide +kernel
theorem dX5_turn_20 : decode cX5_turn 20 = .ok (.getfield 17, 3) := by decide +kernel
theorem dX5_turn_23 : decode cX5_turn 23 = .ok (.iload_n 1, 1) := by decide +kernel
theorem dX5_turn_24 : decode cX5_turn 24 = .ok (.aaload, 1) := by decide +kernel
theorem dX5_turn_25 : decode cX5_turn 25 = .ok (.astore_n 3, 1) := by decide +kernel
theorem dX5_turn_26 : decode cX5_turn 26 = .ok (.iconst 0, 1) := by decide +kernel
theorem dX5_turn_27 : decode cX5_turn 27 = .ok (.istore 4, 2) := by decide +kernel
theorem dX5_turn_29 : decode cX5_turn 29 = .ok (.iload 4, 2) := by decide +kernel
theorem dX5_turn_31 : decode cX5_turn 31 = .ok (.aload_n 0, 1) := by decide +kernel
theorem dX5_turn_32 : decode cX5_turn 32 = .ok (.getfield 59, 3) := by decide +kernel
theorem dX5_turn_35 : decode cX5_turn 35 = .ok (.getfield 76, 3) := by decide +kernel
theorem dX5_turn_38 : decode cX5_turn 38 = .ok (.if_icmp .ge 68, 3) := by decide +kernel
theorem dX5_turn_41 : decode cX5_turn 41 = .ok (.iload_n 2, 1) := by decide +kernel
theorem dX5_turn_42 : decode cX5_turn 42 = .ok (.iconst 3, 1) := by decide +kernel
theorem dX5_turn_43 : decode cX5_turn 43 = .ok (.if_icmp .ne 20, 3) := by decide +kernel
theorem dX5_turn_46 : decode cX5_turn 46 = .ok (.aload_n 0, 1) := by decide +kernel
theorem dX5_turn_47 : decode cX5_turn 47 = .ok (.getfield 59, 3) := by decide +kernel
theorem dX5_turn_50 : decode cX5_turn 50 = .ok (.iload 4, 2) := by decide +kernel
theorem dX5_turn_52 : decode cX5_turn 52 = .ok (.invokevirtual 120, 3) := by decide +kernel
theorem dX5_turn_55 : decode cX5_turn 55 = .ok (.iconst 1, 1) := by decide +kernel
theorem dX5_turn_56 : decode cX5_turn 56 = .ok (.if_icmp .ne 7, 3) := by decide +kernel
theorem dX5_turn_59 : decode cX5_turn 59 = .ok (.iconst 1, 1) := by decide +kernel
theorem dX5_turn_60 : decode cX5_turn 60 = .ok (.goto 4, 3) := by decide +kernel
theorem dX5_turn_63 : decode cX5_turn 63 = .ok (.iconst 0, 1) := by decide +kernel
theorem dX5_turn_64 : decode cX5_turn 64 = .ok (.istore 5, 2) := by decide +kernel
theorem dX5_turn_66 : decode cX5_turn 66 = .ok (.aload_n 0, 1) := by decide +kernel
theorem dX5_turn_67 : decode cX5_turn 67 = .ok (.getfield 20, 3) := by decide +kernel
theorem dX5_turn_70 : decode cX5_turn 70 = .ok (.aload_n 0, 1) := by decide +kernel
theorem dX5_turn_71 : decode cX5_turn 71 = .ok (.getfield 59, 3) := by decide +kernel
theorem dX5_turn_74 : decode cX5_turn 74 = .ok (.iload 4, 2) := by decide +kernel
theorem dX5_turn_76 : decode cX5_turn 76 = .ok (.iload_n 2, 1) := by decide +kernel
theorem dX5_turn_77 : decode cX5_turn 77 = .ok (.invokevirtual 123, 3) := by decide +kernel
theorem dX5_turn_80 : decode cX5_turn 80 = .ok (.iload 5, 2) := by decide +kernel
theorem dX5_turn_82 : decode cX5_turn 82 = .ok (.ifCond .eq 12, 3) := by decide +kernel
theorem dX5_turn_85 : decode cX5_turn 85 = .ok (.aload_n 3, 1) := by decide +kernel
theorem dX5_turn_86 : decode cX5_turn 86 = .ok (.iload 4, 2) := by decide +kernel
theorem dX5_turn_88 : decode cX5_turn 88 = .ok (.iaload, 1) := by decide +kernel
theorem dX5_turn_89 : decode cX5_turn 89 = .ok (.ineg, 1) := by decide +kernel
theorem dX5_turn_90 : decode cX5_turn 90 = .ok (.i2l, 1) := by decide +kernel
theorem dX5_turn_91 : decode cX5_turn 91 = .ok (.goto 8, 3) := by decide +kernel
theorem dX5_turn_94 : decode cX5_turn 94 = .ok (.aload_n 3, 1) := by decide +kernel
theorem dX5_turn_95 : decode cX5_turn 95 = .ok (.iload 4, 2) := by decide +kernel
theorem dX5_turn_97 : decode cX5_turn 97 = .ok (.iaload, 1) := by decide +kernel
theorem dX5_turn_98 : decode cX5_turn 98 = .ok (.i2l, 1) := by decide +kernel
theorem dX5_turn_99 : decode cX5_turn 99 = .ok (.lastore, 1) := by decide +kernel
theorem dX5_turn_100 : decode cX5_turn 100 = .ok (.iinc 4 1, 3) := by decide +kernel
theorem dX5_turn_103 : decode cX5_turn 103 = .ok (.goto (-74), 3) := by decide +kernel
theorem dX5_turn_106 : decode cX5_turn 106 = .ok (.iconst 0, 1) := by decide +kernel
theorem dX5_turn_107 : decode cX5_turn 107 = .ok (.istore 4, 2) := by decide +kernel
theorem dX5_turn_109 : decode cX5_turn 109 = .ok (.iconst 0, 1) := by decide +kernel
theorem dX5_turn_110 : decode cX5_turn 110 = .ok (.istore 5, 2) := by decide +kernel
theorem dX5_turn_112 : decode cX5_turn 112 = .ok (.iload 5, 2) := by decide +kernel
theorem dX5_turn_114 : decode cX5_turn 114 = .ok (.aload_n 0, 1) := by decide +kernel
theorem dX5_turn_115 : decode cX5_turn 115 = .ok (.getfield 59, 3) := by decide +kernel
theorem dX5_turn_118 : decode cX5_turn 118 = .ok (.getfield 76, 3) := by decide +kernel
theorem dX5_turn_121 : decode cX5_turn 121 = .ok (.if_icmp .ge 28, 3) := by decide +kernel
theorem dX5_turn_124 : decode cX5_turn 124 = .ok (.aload_n 0, 1) := by decide +kernel
theorem dX5_turn_125 : decode cX5_turn 125 = .ok (.getfield 20, 3) := by decide +kernel
theorem dX5_turn_128 : decode cX5_turn 128 = .ok (.iload 5, 2) := by decide +kernel
theorem dX5_turn_130 : decode cX5_turn 130 = .ok (.laload, 1) := by decide +kernel
theorem dX5_turn_131 : decode cX5_turn 131 = .ok (.aload_n 3, 1) := by decide +kernel
theorem dX5_turn_132 : decode cX5_turn 132 = .ok (.iload 5, 2) := by decide +kernel
theorem dX5_turn_134 : decode cX5_turn 134 = .ok (.iaload, 1) := by decide +kernel
theorem dX5_turn_135 : decode cX5_turn 135 = .ok (.i2l, 1) := by decide +kernel
theorem dX5_turn_136 : decode cX5_turn 136 = .ok (.lcmp, 1) := by decide +kernel
theorem dX5_turn_137 : decode cX5_turn 137 = .ok (.ifCond .eq 6, 3) := by decide +kernel
theorem dX5_turn_140 : decode cX5_turn 140 = .ok (.iinc 4 1, 3) := by decide +kernel
theorem dX5_turn_143 : decode cX5_turn 143 = .ok (.iinc 5 1, 3) := by decide +kernel
theorem dX5_turn_146 : decode cX5_turn 146 = .ok (.goto (-34), 3) := by decide +kernel
theorem dX5_turn_149 : decode cX5_turn 149 = .ok (.aload_n 0, 1) := by decide +kernel
theorem dX5_turn_150 : decode cX5_turn 150 = .ok (.iload_n 1, 1) := by decide +kernel
theorem dX5_turn_151 : decode cX5_turn 151 = .ok (.iload 4, 2) := by decide +kernel
theorem dX5_turn_153 : decode cX5_turn 153 = .ok (.invokevirtual 90, 3) := by decide +kernel
theorem dX5_turn_156 : decode cX5_turn 156 = .ok (.ireturn, 1) := by decide +kernel
set_option maxRecDepth 20000 in
theorem ggX5_orderOf_X5_isOrder : GoodIn wsX5_orderOf wsX5_isOrder := goodIn_r _ [12, 2, 13, 14, 15, 11, 16, 39, 40, 41, 42, 43, 44, 45, 46, 47, 48, 49, 50, 51, 52, 53, 54, 55, 56, 57, 58] (by decide +kernel) (by decide +kernel)
set_option maxRecDepth 20000 in
theorem gX5_orderOf_X5_isOrder : GoodIn wsX5_orderOf (wsV RX5 83 RX5 yX5_isOrder wsX5_isOrder) := goodIn_app (goodIn_of _ (by decide +kernel)) ggX5_orderOf_X5_isOrder
set_option maxRecDepth 20000 in
theorem ggX5_orderOf_X5_isWithin : GoodIn wsX5_orderOf wsX5_isWithin := goodIn_r _ [16] (by decide +kernel) (by decide +kernel)
set_option maxRecDepth 20000 in
theorem gX5_orderOf_X5_isWithin : GoodIn wsX5_orderOf (va_wsS RX5 63 yX5_isWithin wsX5_isWithin) := goodIn_app (goodIn_of _ (by decide +kernel)) ggX5_orderOf_X5_isWithin
set_option maxRecDepth 20000 in
theorem ggX5_orderOf_X1_letterAt : GoodIn wsX5_orderOf wsX1_letterAt := goodIn_r _ [21, 22, 23, 48, 49, 50, 51, 52, 53, 54, 55, 56, 57, 58] (by decide +kernel) (by decide +kernel)
set_option maxRecDepth 20000 in
theorem gX5_orderOf_X1_letterAt : GoodIn wsX5_orderOf (wsV RX5 133 RX1 yX1_letterAt wsX1_letterAt) := goodIn_app (goodIn_of _ (by decide +kernel)) ggX5_orderOf_X1_letterAt
set_option maxRecDepth 20000 in
theorem ggX5_orderOf_X1_parityOf : GoodIn wsX5_orderOf wsX1_parityOf := goodIn_r _ [27, 28, 48, 49, 50, 51, 52, 53, 54, 55, 56, 57, 58] (by decide +kernel) (by decide +kernel)
set_option maxRecDepth 20000 in
theorem gX5_orderOf_X1_parityOf : GoodIn wsX5_orderOf (wsV RX5 120 RX1 yX1_parityOf wsX1_parityOf) := goodIn_app (goodIn_of _ (by decide +kernel)) ggX5_orderOf_X1_parityOf
set_option maxRecDepth 20000 in
theorem ggX5_orderOf_X1_descentsAddedUp : GoodIn wsX5_orderOf wsX1_descentsAddedUp := goodIn_r _ [32, 23, 33, 48, 49, 50, 51, 52, 53, 54, 55, 56, 57, 58] (by decide +kernel) (by decide +kernel)
set_option maxRecDepth 20000 in
theorem gX5_orderOf_X1_descentsAddedUp : GoodIn wsX5_orderOf (wsV RX5 145 RX1 yX1_descentsAddedUp wsX1_descentsAddedUp) := goodIn_app (goodIn_of _ (by decide +kernel)) ggX5_orderOf_X1_descentsAddedUp
set_option maxRecDepth 20000 in
theorem ggX5_orderOf_X1_ringsOf : GoodIn wsX5_orderOf wsX1_ringsOf := goodIn_r _ [37, 23, 38, 18, 19, 20, 21, 22, 48, 49, 50, 51, 52, 53, 54, 55, 56, 57, 58] (by decide +kernel) (by decide +kernel)
set_option maxRecDepth 20000 in
theorem gX5_orderOf_X1_ringsOf : GoodIn wsX5_orderOf (wsV RX5 148 RX1 yX1_ringsOf wsX1_ringsOf) := goodIn_app (goodIn_of _ (by decide +kernel)) ggX5_orderOf_X1_ringsOf
theorem dX5_orderOf_0 : decode cX5_orderOf 0 = .ok (.aload_n 0, 1) := by decide +kernel
theorem dX5_orderOf_1 : decode cX5_orderOf 1 = .ok (.iload_n 1, 1) := by decide +kernel
theorem dX5_orderOf_2 : decode cX5_orderOf 2 = .ok (.invokevirtual 83, 3) := by decide +kernel
theorem dX5_orderOf_5 : decode cX5_orderOf 5 = .ok (.ifCond .ne 6, 3) := by decide +kernel
theorem dX5_orderOf_8 : decode cX5_orderOf 8 = .ok (.ldc 67, 2) := by decide +kernel
theorem dX5_orderOf_10 : decode cX5_orderOf 10 = .ok (.ireturn, 1) := by decide +kernel
theorem dX5_orderOf_11 : decode cX5_orderOf 11 = .ok (.iload_n 2, 1) := by decide +kernel
theorem dX5_orderOf_12 : decode cX5_orderOf 12 = .ok (.bipush 10, 2) := by decide +kernel
theorem dX5_orderOf_14 : decode cX5_orderOf 14 = .ok (.bipush 10, 2) := by decide +kernel
theorem dX5_orderOf_16 : decode cX5_orderOf 16 = .ok (.aload_n 0, 1) := by decide +kernel
theorem dX5_orderOf_17 : decode cX5_orderOf 17 = .ok (.getfield 59, 3) := by decide +kernel
theorem dX5_orderOf_20 : decode cX5_orderOf 20 = .ok (.getfield 68, 3) := by decide +kernel
theorem dX5_orderOf_23 : decode cX5_orderOf 23 = .ok (.iadd, 1) := by decide +kernel
theorem dX5_orderOf_24 : decode cX5_orderOf 24 = .ok (.iconst 1, 1) := by decide +kernel
theorem dX5_orderOf_25 : decode cX5_orderOf 25 = .ok (.isub, 1) := by decide +kernel
theorem dX5_orderOf_26 : decode cX5_orderOf 26 = .ok (.invokestatic 63, 3) := by decide +kernel
theorem dX5_orderOf_29 : decode cX5_orderOf 29 = .ok (.ifCond .eq 16, 3) := by decide +kernel
theorem dX5_orderOf_32 : decode cX5_orderOf 32 = .ok (.aload_n 0, 1) := by decide +kernel
theorem dX5_orderOf_33 : decode cX5_orderOf 33 = .ok (.getfield 59, 3) := by decide +kernel
theorem dX5_orderOf_36 : decode cX5_orderOf 36 = .ok (.iload_n 1, 1) := by decide +kernel
theorem dX5_orderOf_37 : decode cX5_orderOf 37 = .ok (.iload_n 2, 1) := by decide +kernel
theorem dX5_orderOf_38 : decode cX5_orderOf 38 = .ok (.bipush 10, 2) := by decide +kernel
theorem dX5_orderOf_40 : decode cX5_orderOf 40 = .ok (.isub, 1) := by decide +kernel
theorem dX5_orderOf_41 : decode cX5_orderOf 41 = .ok (.invokevirtual 133, 3) := by decide +kernel
theorem dX5_orderOf_44 : decode cX5_orderOf 44 = .ok (.ireturn, 1) := by decide +kernel
theorem dX5_orderOf_45 : decode cX5_orderOf 45 = .ok (.iload_n 2, 1) := by decide +kernel
theorem dX5_orderOf_46 : decode cX5_orderOf 46 = .ok (.tableswitch 109 0 6 #[42, 52, 62, 72, 81, 91, 100], 42) := by decide +kernel
theorem dX5_orderOf_88 : decode cX5_orderOf 88 = .ok (.aload_n 0, 1) := by decide +kernel
theorem dX5_orderOf_89 : decode cX5_orderOf 89 = .ok (.getfield 59, 3) := by decide +kernel
theorem dX5_orderOf_92 : decode cX5_orderOf 92 = .ok (.getfield 101, 3) := by decide +kernel
theorem dX5_orderOf_95 : decode cX5_orderOf 95 = .ok (.iload_n 1, 1) := by decide +kernel
theorem dX5_orderOf_96 : decode cX5_orderOf 96 = .ok (.iaload, 1) := by decide +kernel
theorem dX5_orderOf_97 : decode cX5_orderOf 97 = .ok (.ireturn, 1) := by decide +kernel
theorem dX5_orderOf_98 : decode cX5_orderOf 98 = .ok (.aload_n 0, 1) := by decide +kernel
theorem dX5_orderOf_99 : decode cX5_orderOf 99 = .ok (.getfield 59, 3) := by decide +kernel
theorem dX5_orderOf_102 : decode cX5_orderOf 102 = .ok (.getfield 136, 3) := by decide +kernel
theorem dX5_orderOf_105 : decode cX5_orderOf 105 = .ok (.iload_n 1, 1) := by decide +kernel
theorem dX5_orderOf_106 : decode cX5_orderOf 106 = .ok (.iaload, 1) := by decide +kernel
theorem dX5_orderOf_107 : decode cX5_orderOf 107 = .ok (.ireturn, 1) := by decide +kernel
theorem dX5_orderOf_108 : decode cX5_orderOf 108 = .ok (.aload_n 0, 1) := by decide +kernel
theorem dX5_orderOf_109 : decode cX5_orderOf 109 = .ok (.getfield 59, 3) := by decide +kernel
theorem dX5_orderOf_112 : decode cX5_orderOf 112 = .ok (.getfield 139, 3) := by decide +kernel
theorem dX5_orderOf_115 : decode cX5_orderOf 115 = .ok (.iload_n 1, 1) := by decide +kernel
theorem dX5_orderOf_116 : decode cX5_orderOf 116 = .ok (.iaload, 1) := by decide +kernel
theorem dX5_orderOf_117 : decode cX5_orderOf 117 = .ok (.ireturn, 1) := by decide +kernel
theorem dX5_orderOf_118 : decode cX5_orderOf 118 = .ok (.aload_n 0, 1) := by decide +kernel
theorem dX5_orderOf_119 : decode cX5_orderOf 119 = .ok (.getfield 59, 3) := by decide +kernel
theorem dX5_orderOf_122 : decode cX5_orderOf 122 = .ok (.iload_n 1, 1) := by decide +kernel
theorem dX5_orderOf_123 : decode cX5_orderOf 123 = .ok (.invokevirtual 120, 3) := by decide +kernel
theorem dX5_orderOf_126 : decode cX5_orderOf 126 = .ok (.ireturn, 1) := by decide +kernel
theorem dX5_orderOf_127 : decode cX5_orderOf 127 = .ok (.aload_n 0, 1) := by decide +kernel
theorem dX5_orderOf_128 : decode cX5_orderOf 128 = .ok (.getfield 59, 3) := by decide +kernel
theorem dX5_orderOf_131 : decode cX5_orderOf 131 = .ok (.getfield 142, 3) := by decide +kernel
theorem dX5_orderOf_134 : decode cX5_orderOf 134 = .ok (.iload_n 1, 1) := by decide +kernel
theorem dX5_orderOf_135 : decode cX5_orderOf 135 = .ok (.iaload, 1) := by decide +kernel
theorem dX5_orderOf_136 : decode cX5_orderOf 136 = .ok (.ireturn, 1) := by decide +kernel
theorem dX5_orderOf_137 : decode cX5_orderOf 137 = .ok (.aload_n 0, 1) := by decide +kernel
theorem dX5_orderOf_138 : decode cX5_orderOf 138 = .ok (.getfield 59, 3) := by decide +kernel
theorem dX5_orderOf_141 : decode cX5_orderOf 141 = .ok (.iload_n 1, 1) := by decide +kernel
theorem dX5_orderOf_142 : decode cX5_orderOf 142 = .ok (.invokevirtual 145, 3) := by decide +kernel
theorem dX5_orderOf_145 : decode cX5_orderOf 145 = .ok (.ireturn, 1) := by decide +kernel
theorem dX5_orderOf_146 : decode cX5_orderOf 146 = .ok (.aload_n 0, 1) := by decide +kernel
theorem dX5_orderOf_147 : decode cX5_orderOf 147 = .ok (.getfield 59, 3) := by decide +kernel
theorem dX5_orderOf_150 : decode cX5_orderOf 150 = .ok (.iload_n 1, 1) := by decide +kernel
theorem dX5_orderOf_151 : decode cX5_orderOf 151 = .ok (.invokevirtual 148, 3) := by decide +kernel
theorem dX5_orderOf_154 : decode cX5_orderOf 154 = .ok (.ireturn, 1) := by decide +kernel
theorem dX5_orderOf_155 : decode cX5_orderOf 155 = .ok (.ldc 67, 2) := by decide +kernel
theorem dX5_orderOf_157 : decode cX5_orderOf 157 = .ok (.ireturn, 1) := by decide +kernel
set_option maxRecDepth 20000 in
theorem ggX5_product_X5_isOrder : GoodIn wsX5_product wsX5_isOrder := goodIn_r _ [7, 2, 8, 9, 10, 6, 11, 19, 20, 21, 22, 23, 24, 25, 26, 27, 28, 29, 30, 31, 32, 33, 34, 35, 36, 37, 38] (by decide +kernel) (by decide +kernel)
set_option maxRecDepth 20000 in
theorem gX5_product_X5_isOrder : GoodIn wsX5_product (wsV RX5 83 RX5 yX5_isOrder wsX5_isOrder) := goodIn_app (goodIn_of _ (by decide +kernel)) ggX5_product_X5_isOrder
set_option maxRecDepth 20000 in
theorem ggX5_product_X1_times : GoodIn wsX5_product wsX1_times := goodIn_r _ [16, 17, 18, 28, 29, 30, 31, 32, 33, 34, 35, 36, 37, 38] (by decide +kernel) (by decide +kernel)
set_option maxRecDepth 20000 in
theorem gX5_product_X1_times : GoodIn wsX5_product (wsV RX5 151 RX1 yX1_times wsX1_times) := goodIn_app (goodIn_of _ (by decide +kernel)) ggX5_product_X1_times
theorem dX5_product_0 : decode cX5_product 0 = .ok (.aload_n 0, 1) := by decide +kernel
theorem dX5_product_1 : decode cX5_product 1 = .ok (.iload_n 1, 1) := by decide +kernel
theorem dX5_product_2 : decode cX5_product 2 = .ok (.invokevirtual 83, 3) := by decide +kernel
theorem dX5_product_5 : decode cX5_product 5 = .ok (.ifCond .eq 11, 3) := by decide +kernel
theorem dX5_product_8 : decode cX5_product 8 = .ok (.aload_n 0, 1) := by decide +kernel
theorem dX5_product_9 : decode cX5_product 9 = .ok (.iload_n 2, 1) := by decide +kernel
theorem dX5_product_10 : decode cX5_product 10 = .ok (.invokevirtual 83, 3) := by decide +kernel
theorem dX5_product_13 : decode cX5_product 13 = .ok (.ifCond .ne 6, 3) := by decide +kernel
theorem dX5_product_16 : decode cX5_product 16 = .ok (.ldc 67, 2) := by decide +kernel
theorem dX5_product_18 : decode cX5_product 18 = .ok (.ireturn, 1) := by decide +kernel
theorem dX5_product_19 : decode cX5_product 19 = .ok (.aload_n 0, 1) := by decide +kernel
theorem dX5_product_20 : decode cX5_product 20 = .ok (.getfield 59, 3) := by decide +kernel
theorem dX5_product_23 : decode cX5_product 23 = .ok (.iload_n 1, 1) := by decide +kernel
theorem dX5_product_24 : decode cX5_product 24 = .ok (.iload_n 2, 1) := by decide +kernel
theorem dX5_product_25 : decode cX5_product 25 = .ok (.invokevirtual 151, 3) := by decide +kernel
theorem dX5_product_28 : decode cX5_product 28 = .ok (.ireturn, 1) := by decide +kernel
set_option maxRecDepth 20000 in
theorem ggX5_factor_X5_isSum : GoodIn wsX5_factor wsX5_isSum := goodIn_r _ [6, 7, 8, 5, 9] (by decide +kernel) (by decide +kernel)
set_option maxRecDepth 20000 in
theorem gX5_factor_X5_isSum : GoodIn wsX5_factor (va_wsS RX5 79 yX5_isSum wsX5_isSum) := goodIn_app (goodIn_of _ (by decide +kernel)) ggX5_factor_X5_isSum
set_option maxRecDepth 20000 in
theorem ggX5_factor_X5_isOrder : GoodIn wsX5_factor wsX5_isOrder := goodIn_r _ [13, 14, 15, 7, 8, 5, 9, 16, 17, 18, 19, 20, 21, 22, 23, 24, 25, 26, 27, 28, 29, 30, 31, 32, 33, 34, 35] (by decide +kernel) (by decide +kernel)
set_option maxRecDepth 20000 in
theorem gX5_factor_X5_isOrder : GoodIn wsX5_factor (wsV RX5 83 RX5 yX5_isOrder wsX5_isOrder) := goodIn_app (goodIn_of _ (by decide +kernel)) ggX5_factor_X5_isOrder
theorem dX5_factor_0 : decode cX5_factor 0 = .ok (.iload_n 1, 1) := by decide +kernel
theorem dX5_factor_1 : decode cX5_factor 1 = .ok (.invokestatic 79, 3) := by decide +kernel
theorem dX5_factor_4 : decode cX5_factor 4 = .ok (.ifCond .eq 11, 3) := by decide +kernel
theorem dX5_factor_7 : decode cX5_factor 7 = .ok (.aload_n 0, 1) := by decide +kernel
theorem dX5_factor_8 : decode cX5_factor 8 = .ok (.iload_n 2, 1) := by decide +kernel
theorem dX5_factor_9 : decode cX5_factor 9 = .ok (.invokevirtual 83, 3) := by decide +kernel
theorem dX5_factor_12 : decode cX5_factor 12 = .ok (.ifCond .ne 6, 3) := by decide +kernel
theorem dX5_factor_15 : decode cX5_factor 15 = .ok (.ldc 67, 2) := by decide +kernel
theorem dX5_factor_17 : decode cX5_factor 17 = .ok (.ireturn, 1) := by decide +kernel
theorem dX5_factor_18 : decode cX5_factor 18 = .ok (.aload_n 0, 1) := by decide +kernel
theorem dX5_factor_19 : decode cX5_factor 19 = .ok (.getfield 17, 3) := by decide +kernel
theorem dX5_factor_22 : decode cX5_factor 22 = .ok (.iload_n 1, 1) := by decide +kernel
theorem dX5_factor_23 : decode cX5_factor 23 = .ok (.aaload, 1) := by decide +kernel
theorem dX5_factor_24 : decode cX5_factor 24 = .ok (.iload_n 2, 1) := by decide +kernel
theorem dX5_factor_25 : decode cX5_factor 25 = .ok (.iaload, 1) := by decide +kernel
theorem dX5_factor_26 : decode cX5_factor 26 = .ok (.ireturn, 1) := by decide +kernel
set_option maxRecDepth 20000 in
theorem ggX5_termOf_X5_isSum : GoodIn wsX5_termOf wsX5_isSum := goodIn_r _ [9, 10, 11, 8, 12] (by decide +kernel) (by decide +kernel)
set_option maxRecDepth 20000 in
theorem gX5_termOf_X5_isSum : GoodIn wsX5_termOf (va_wsS RX5 79 yX5_isSum wsX5_isSum) := goodIn_app (goodIn_of _ (by decide +kernel)) ggX5_termOf_X5_isSum
set_option maxRecDepth 20000 in
theorem ggX5_termOf_X5_isWithin : GoodIn wsX5_termOf wsX5_isWithin := goodIn_r _ [12] (by decide +kernel) (by decide +kernel)
set_option maxRecDepth 20000 in
theorem gX5_termOf_X5_isWithin : GoodIn wsX5_termOf (va_wsS RX5 63 yX5_isWithin wsX5_isWithin) := goodIn_app (goodIn_of _ (by decide +kernel)) ggX5_termOf_X5_isWithin
theorem dX5_termOf_0 : decode cX5_termOf 0 = .ok (.iload_n 1, 1) := by decide +kernel
theorem dX5_termOf_1 : decode cX5_termOf 1 = .ok (.invokestatic 79, 3) := by decide +kernel
theorem dX5_termOf_4 : decode cX5_termOf 4 = .ok (.ifCond .eq 16, 3) := by decide +kernel
theorem dX5_termOf_7 : decode cX5_termOf 7 = .ok (.iload_n 2, 1) := by decide +kernel
theorem dX5_termOf_8 : decode cX5_termOf 8 = .ok (.ifCond .lt 12, 3) := by decide +kernel
theorem dX5_termOf_11 : decode cX5_termOf 11 = .ok (.iload_n 3, 1) := by decide +kernel
theorem dX5_termOf_12 : decode cX5_termOf 12 = .ok (.iconst 0, 1) := by decide +kernel
theorem dX5_termOf_13 : decode cX5_termOf 13 = .ok (.iconst 1, 1) := by decide +kernel
theorem dX5_termOf_14 : decode cX5_termOf 14 = .ok (.invokestatic 63, 3) := by decide +kernel
theorem dX5_termOf_17 : decode cX5_termOf 17 = .ok (.ifCond .ne 6, 3) := by decide +kernel
theorem dX5_termOf_20 : decode cX5_termOf 20 = .ok (.ldc 67, 2) := by decide +kernel
theorem dX5_termOf_22 : decode cX5_termOf 22 = .ok (.ireturn, 1) := by decide +kernel
theorem dX5_termOf_23 : decode cX5_termOf 23 = .ok (.iconst 0, 1) := by decide +kernel
theorem dX5_termOf_24 : decode cX5_termOf 24 = .ok (.istore 4, 2) := by decide +kernel
theorem dX5_termOf_26 : decode cX5_termOf 26 = .ok (.iconst 0, 1) := by decide +kernel
theorem dX5_termOf_27 : decode cX5_termOf 27 = .ok (.istore 5, 2) := by decide +kernel
theorem dX5_termOf_29 : decode cX5_termOf 29 = .ok (.iload 5, 2) := by decide +kernel
theorem dX5_termOf_31 : decode cX5_termOf 31 = .ok (.aload_n 0, 1) := by decide +kernel
theorem dX5_termOf_32 : decode cX5_termOf 32 = .ok (.getfield 59, 3) := by decide +kernel
theorem dX5_termOf_35 : decode cX5_termOf 35 = .ok (.getfield 76, 3) := by decide +kernel
theorem dX5_termOf_38 : decode cX5_termOf 38 = .ok (.if_icmp .ge 49, 3) := by decide +kernel
theorem dX5_termOf_41 : decode cX5_termOf 41 = .ok (.aload_n 0, 1) := by decide +kernel
theorem dX5_termOf_42 : decode cX5_termOf 42 = .ok (.getfield 17, 3) := by decide +kernel
theorem dX5_termOf_45 : decode cX5_termOf 45 = .ok (.iload_n 1, 1) := by decide +kernel
theorem dX5_termOf_46 : decode cX5_termOf 46 = .ok (.aaload, 1) := by decide +kernel
theorem dX5_termOf_47 : decode cX5_termOf 47 = .ok (.iload 5, 2) := by decide +kernel
theorem dX5_termOf_49 : decode cX5_termOf 49 = .ok (.iaload, 1) := by decide +kernel
theorem dX5_termOf_50 : decode cX5_termOf 50 = .ok (.ifCond .eq 31, 3) := by decide +kernel
theorem dX5_termOf_53 : decode cX5_termOf 53 = .ok (.iload 4, 2) := by decide +kernel
theorem dX5_termOf_55 : decode cX5_termOf 55 = .ok (.iload_n 2, 1) := by decide +kernel
theorem dX5_termOf_56 : decode cX5_termOf 56 = .ok (.if_icmp .ne 22, 3) := by decide +kernel
theorem dX5_termOf_59 : decode cX5_termOf 59 = .ok (.iload_n 3, 1) := by decide +kernel
theorem dX5_termOf_60 : decode cX5_termOf 60 = .ok (.ifCond .ne 8, 3) := by decide +kernel
theorem dX5_termOf_63 : decode cX5_termOf 63 = .ok (.iload 5, 2) := by decide +kernel
theorem dX5_termOf_65 : decode cX5_termOf 65 = .ok (.goto 12, 3) := by decide +kernel
theorem dX5_termOf_68 : decode cX5_termOf 68 = .ok (.aload_n 0, 1) := by decide +kernel
theorem dX5_termOf_69 : decode cX5_termOf 69 = .ok (.getfield 17, 3) := by decide +kernel
theorem dX5_termOf_72 : decode cX5_termOf 72 = .ok (.iload_n 1, 1) := by decide +kernel
theorem dX5_termOf_73 : decode cX5_termOf 73 = .ok (.aaload, 1) := by decide +kernel
theorem dX5_termOf_74 : decode cX5_termOf 74 = .ok (.iload 5, 2) := by decide +kernel
theorem dX5_termOf_76 : decode cX5_termOf 76 = .ok (.iaload, 1) := by decide +kernel
theorem dX5_termOf_77 : decode cX5_termOf 77 = .ok (.ireturn, 1) := by decide +kernel
theorem dX5_termOf_78 : decode cX5_termOf 78 = .ok (.iinc 4 1, 3) := by decide +kernel
theorem dX5_termOf_81 : decode cX5_termOf 81 = .ok (.iinc 5 1, 3) := by decide +kernel
theorem dX5_termOf_84 : decode cX5_termOf 84 = .ok (.goto (-55), 3) := by decide +kernel
theorem dX5_termOf_87 : decode cX5_termOf 87 = .ok (.ldc 154, 2) := by decide +kernel
theorem dX5_termOf_89 : decode cX5_termOf 89 = .ok (.ireturn, 1) := by decide +kernel
set_option maxRecDepth 20000 in
theorem ggX5_sumOf_X5_isSum : GoodIn wsX5_sumOf wsX5_isSum := goodIn_r _ [5, 6, 7, 4, 8] (by decide +kernel) (by decide +kernel)
set_option maxRecDepth 20000 in
theorem gX5_sumOf_X5_isSum : GoodIn wsX5_sumOf (va_wsS RX5 79 yX5_isSum wsX5_isSum) := goodIn_app (goodIn_of _ (by decide +kernel)) ggX5_sumOf_X5_isSum
set_option maxRecDepth 20000 in
theorem ggX5_sumOf_X5_termsIn : GoodIn wsX5_sumOf wsX5_termsIn := goodIn_r _ [12, 13, 14, 15, 41, 42, 43, 44, 45, 46, 47, 48, 49, 50, 51, 52, 53, 54, 55, 56, 57, 58, 59, 60] (by decide +kernel) (by decide +kernel)
set_option maxRecDepth 20000 in
theorem gX5_sumOf_X5_termsIn : GoodIn wsX5_sumOf (wsV RX5 105 RX5 yX5_termsIn wsX5_termsIn) := goodIn_app (goodIn_of _ (by decide +kernel)) ggX5_sumOf_X5_termsIn
set_option maxRecDepth 20000 in
theorem ggX5_sumOf_X5_factorsAddedUp : GoodIn wsX5_sumOf wsX5_factorsAddedUp := goodIn_r _ [19, 13, 14, 15, 41, 42, 43, 44, 45, 46, 47, 48, 49, 50, 51, 52, 53, 54, 55, 56, 57, 58, 59, 60] (by decide +kernel) (by decide +kernel)
set_option maxRecDepth 20000 in
theorem gX5_sumOf_X5_factorsAddedUp : GoodIn wsX5_sumOf (wsV RX5 155 RX5 yX5_factorsAddedUp wsX5_factorsAddedUp) := goodIn_app (goodIn_of _ (by decide +kernel)) ggX5_sumOf_X5_factorsAddedUp
set_option maxRecDepth 20000 in
theorem ggX5_sumOf_X5_goesByDescents : GoodIn wsX5_sumOf wsX5_goesByDescents := goodIn_r _ [23, 13, 14, 15, 24, 25, 41, 42, 43, 44, 45, 46, 47, 48, 49, 50, 51, 52, 53, 54, 55, 56, 57, 58, 59, 60] (by decide +kernel) (by decide +kernel)
set_option maxRecDepth 20000 in
theorem gX5_sumOf_X5_goesByDescents : GoodIn wsX5_sumOf (wsV RX5 158 RX5 yX5_goesByDescents wsX5_goesByDescents) := goodIn_app (goodIn_of _ (by decide +kernel)) ggX5_sumOf_X5_goesByDescents
set_option maxRecDepth 20000 in
theorem ggX5_sumOf_X5_greatestIn : GoodIn wsX5_sumOf wsX5_greatestIn := goodIn_r _ [29, 15, 13, 14, 30, 31, 32, 33, 41, 42, 43, 44, 45, 46, 47, 48, 49, 50, 51, 52, 53, 54, 55, 56, 57, 58, 59, 60] (by decide +kernel) (by decide +kernel)
set_option maxRecDepth 20000 in
theorem gX5_sumOf_X5_greatestIn : GoodIn wsX5_sumOf (wsV RX5 161 RX5 yX5_greatestIn wsX5_greatestIn) := goodIn_app (goodIn_of _ (by decide +kernel)) ggX5_sumOf_X5_greatestIn
set_option maxRecDepth 20000 in
theorem ggX5_sumOf_X5_leastIn : GoodIn wsX5_sumOf wsX5_leastIn := goodIn_r _ [37, 15, 13, 14, 38, 39, 32, 40, 41, 42, 43, 44, 45, 46, 47, 48, 49, 50, 51, 52, 53, 54, 55, 56, 57, 58, 59, 60] (by decide +kernel) (by decide +kernel)
set_option maxRecDepth 20000 in
theorem gX5_sumOf_X5_leastIn : GoodIn wsX5_sumOf (wsV RX5 164 RX5 yX5_leastIn wsX5_leastIn) := goodIn_app (goodIn_of _ (by decide +kernel)) ggX5_sumOf_X5_leastIn
theorem dX5_sumOf_0 : decode cX5_sumOf 0 = .ok (.iload_n 1, 1) := by decide +kernel
theorem dX5_sumOf_1 : decode cX5_sumOf 1 = .ok (.invokestatic 79, 3) := by decide +kernel
theorem dX5_sumOf_4 : decode cX5_sumOf 4 = .ok (.ifCond .ne 6, 3) := by decide +kernel
theorem dX5_sumOf_7 : decode cX5_sumOf 7 = .ok (.ldc 67, 2) := by decide +kernel
theorem dX5_sumOf_9 : decode cX5_sumOf 9 = .ok (.ireturn, 1) := by decide +kernel
theorem dX5_sumOf_10 : decode cX5_sumOf 10 = .ok (.iload_n 2, 1) := by decide +kernel
theorem dX5_sumOf_11 : decode cX5_sumOf 11 = .ok (.tableswitch 71 0 4 #[33, 39, 45, 59, 65], 33) := by decide +kernel
theorem dX5_sumOf_44 : decode cX5_sumOf 44 = .ok (.aload_n 0, 1) := by decide +kernel
theorem dX5_sumOf_45 : decode cX5_sumOf 45 = .ok (.iload_n 1, 1) := by decide +kernel
theorem dX5_sumOf_46 : decode cX5_sumOf 46 = .ok (.invokevirtual 105, 3) := by decide +kernel
theorem dX5_sumOf_49 : decode cX5_sumOf 49 = .ok (.ireturn, 1) := by decide +kernel
theorem dX5_sumOf_50 : decode cX5_sumOf 50 = .ok (.aload_n 0, 1) := by decide +kernel
theorem dX5_sumOf_51 : decode cX5_sumOf 51 = .ok (.iload_n 1, 1) := by decide +kernel
theorem dX5_sumOf_52 : decode cX5_sumOf 52 = .ok (.invokevirtual 155, 3) := by decide +kernel
theorem dX5_sumOf_55 : decode cX5_sumOf 55 = .ok (.ireturn, 1) := by decide +kernel
theorem dX5_sumOf_56 : decode cX5_sumOf 56 = .ok (.aload_n 0, 1) := by decide +kernel
theorem dX5_sumOf_57 : decode cX5_sumOf 57 = .ok (.iload_n 1, 1) := by decide +kernel
theorem dX5_sumOf_58 : decode cX5_sumOf 58 = .ok (.invokevirtual 158, 3) := by decide +kernel
theorem dX5_sumOf_61 : decode cX5_sumOf 61 = .ok (.ifCond .eq 7, 3) := by decide +kernel
theorem dX5_sumOf_64 : decode cX5_sumOf 64 = .ok (.iconst 1, 1) := by decide +kernel
theorem dX5_sumOf_65 : decode cX5_sumOf 65 = .ok (.goto 4, 3) := by decide +kernel
theorem dX5_sumOf_68 : decode cX5_sumOf 68 = .ok (.iconst 0, 1) := by decide +kernel
theorem dX5_sumOf_69 : decode cX5_sumOf 69 = .ok (.ireturn, 1) := by decide +kernel
theorem dX5_sumOf_70 : decode cX5_sumOf 70 = .ok (.aload_n 0, 1) := by decide +kernel
theorem dX5_sumOf_71 : decode cX5_sumOf 71 = .ok (.iload_n 1, 1) := by decide +kernel
theorem dX5_sumOf_72 : decode cX5_sumOf 72 = .ok (.invokevirtual 161, 3) := by decide +kernel
theorem dX5_sumOf_75 : decode cX5_sumOf 75 = .ok (.ireturn, 1) := by decide +kernel
theorem dX5_sumOf_76 : decode cX5_sumOf 76 = .ok (.aload_n 0, 1) := by decide +kernel
theorem dX5_sumOf_77 : decode cX5_sumOf 77 = .ok (.iload_n 1, 1) := by decide +kernel
theorem dX5_sumOf_78 : decode cX5_sumOf 78 = .ok (.invokevirtual 164, 3) := by decide +kernel
theorem dX5_sumOf_81 : decode cX5_sumOf 81 = .ok (.ireturn, 1) := by decide +kernel
theorem dX5_sumOf_82 : decode cX5_sumOf 82 = .ok (.ldc 67, 2) := by decide +kernel
theorem dX5_sumOf_84 : decode cX5_sumOf 84 = .ok (.ireturn, 1) := by decide +kernel
set_option maxRecDepth 20000 in
theorem ggX5_byOrders_X5_isSet : GoodIn wsX5_byOrders wsX5_isSet := goodIn_r _ [10, 2, 3, 11, 12, 9, 13, 43, 44, 45, 46, 47, 48, 49, 50, 51, 52, 53, 54, 55, 56, 57, 58, 59, 60, 61, 62] (by decide +kernel) (by decide +kernel)
set_option maxRecDepth 20000 in
theorem gX5_byOrders_X5_isSet : GoodIn wsX5_byOrders (wsV RX5 94 RX5 yX5_isSet wsX5_isSet) := goodIn_app (goodIn_of _ (by decide +kernel)) ggX5_byOrders_X5_isSet
set_option maxRecDepth 20000 in
theorem ggX5_byOrders_X5_timesInProduct : GoodIn wsX5_byOrders wsX5_timesInProduct := goodIn_r _ [17, 2, 18, 19, 20, 21, 22, 23, 24, 25, 26, 27, 28, 29, 30, 31, 43, 44, 45, 46, 47, 48, 49, 50, 51, 52, 53, 54, 55, 56, 57, 58, 59, 60, 61, 62] (by decide +kernel) (by decide +kernel)
set_option maxRecDepth 20000 in
theorem gX5_byOrders_X5_timesInProduct : GoodIn wsX5_byOrders (wsV RX5 180 RX5 yX5_timesInProduct wsX5_timesInProduct) := goodIn_app (goodIn_of _ (by decide +kernel)) ggX5_byOrders_X5_timesInProduct
set_option maxRecDepth 20000 in
theorem ggX5_byOrders_X5_wideFactor : GoodIn wsX5_byOrders wsX5_wideFactor := goodIn_r _ [35, 2, 3, 4, 36, 37, 38, 39, 40, 41, 42, 43, 44, 45, 46, 47, 48, 49, 50, 51, 52, 53, 54, 55, 56, 57, 58, 59, 60, 61, 62] (by decide +kernel) (by decide +kernel)
set_option maxRecDepth 20000 in
theorem gX5_byOrders_X5_wideFactor : GoodIn wsX5_byOrders (wsV RX5 173 RX5 yX5_wideFactor wsX5_wideFactor) := goodIn_app (goodIn_of _ (by decide +kernel)) ggX5_byOrders_X5_wideFactor
theorem dX5_byOrders_0 : decode cX5_byOrders 0 = .ok (.aload_n 0, 1) := by decide +kernel
theorem dX5_byOrders_1 : decode cX5_byOrders 1 = .ok (.iload_n 1, 1) := by decide +kernel
theorem dX5_byOrders_2 : decode cX5_byOrders 2 = .ok (.invokevirtual 94, 3) := by decide +kernel
theorem dX5_byOrders_5 : decode cX5_byOrders 5 = .ok (.ifCond .eq 19, 3) := by decide +kernel
theorem dX5_byOrders_8 : decode cX5_byOrders 8 = .ok (.aload_n 0, 1) := by decide +kernel
theorem dX5_byOrders_9 : decode cX5_byOrders 9 = .ok (.iload_n 2, 1) := by decide +kernel
theorem dX5_byOrders_10 : decode cX5_byOrders 10 = .ok (.invokevirtual 94, 3) := by decide +kernel
theorem dX5_byOrders_13 : decode cX5_byOrders 13 = .ok (.ifCond .eq 11, 3) := by decide +kernel
theorem dX5_byOrders_16 : decode cX5_byOrders 16 = .ok (.aload_n 0, 1) := by decide +kernel
theorem dX5_byOrders_17 : decode cX5_byOrders 17 = .ok (.iload_n 3, 1) := by decide +kernel
theorem dX5_byOrders_18 : decode cX5_byOrders 18 = .ok (.invokevirtual 94, 3) := by decide +kernel
theorem dX5_byOrders_21 : decode cX5_byOrders 21 = .ok (.ifCond .ne 6, 3) := by decide +kernel
theorem dX5_byOrders_24 : decode cX5_byOrders 24 = .ok (.ldc 67, 2) := by decide +kernel
theorem dX5_byOrders_26 : decode cX5_byOrders 26 = .ok (.ireturn, 1) := by decide +kernel
theorem dX5_byOrders_27 : decode cX5_byOrders 27 = .ok (.iconst 0, 1) := by decide +kernel
theorem dX5_byOrders_28 : decode cX5_byOrders 28 = .ok (.istore 4, 2) := by decide +kernel
theorem dX5_byOrders_30 : decode cX5_byOrders 30 = .ok (.iload 4, 2) := by decide +kernel
theorem dX5_byOrders_32 : decode cX5_byOrders 32 = .ok (.aload_n 0, 1) := by decide +kernel
theorem dX5_byOrders_33 : decode cX5_byOrders 33 = .ok (.getfield 59, 3) := by decide +kernel
theorem dX5_byOrders_36 : decode cX5_byOrders 36 = .ok (.getfield 170, 3) := by decide +kernel
theorem dX5_byOrders_39 : decode cX5_byOrders 39 = .ok (.if_icmp .ge 33, 3) := by decide +kernel
theorem dX5_byOrders_42 : decode cX5_byOrders 42 = .ok (.aload_n 0, 1) := by decide +kernel
theorem dX5_byOrders_43 : decode cX5_byOrders 43 = .ok (.getfield 24, 3) := by decide +kernel
theorem dX5_byOrders_46 : decode cX5_byOrders 46 = .ok (.iload 4, 2) := by decide +kernel
theorem dX5_byOrders_48 : decode cX5_byOrders 48 = .ok (.aload_n 0, 1) := by decide +kernel
theorem dX5_byOrders_49 : decode cX5_byOrders 49 = .ok (.iload_n 1, 1) := by decide +kernel
theorem dX5_byOrders_50 : decode cX5_byOrders 50 = .ok (.iload_n 2, 1) := by decide +kernel
theorem dX5_byOrders_51 : decode cX5_byOrders 51 = .ok (.aload_n 0, 1) := by decide +kernel
theorem dX5_byOrders_52 : decode cX5_byOrders 52 = .ok (.getfield 59, 3) := by decide +kernel
theorem dX5_byOrders_55 : decode cX5_byOrders 55 = .ok (.getfield 167, 3) := by decide +kernel
theorem dX5_byOrders_58 : decode cX5_byOrders 58 = .ok (.iload 4, 2) := by decide +kernel
theorem dX5_byOrders_60 : decode cX5_byOrders 60 = .ok (.iaload, 1) := by decide +kernel
theorem dX5_byOrders_61 : decode cX5_byOrders 61 = .ok (.invokevirtual 180, 3) := by decide +kernel
theorem dX5_byOrders_64 : decode cX5_byOrders 64 = .ok (.i2l, 1) := by decide +kernel
theorem dX5_byOrders_65 : decode cX5_byOrders 65 = .ok (.lastore, 1) := by decide +kernel
theorem dX5_byOrders_66 : decode cX5_byOrders 66 = .ok (.iinc 4 1, 3) := by decide +kernel
theorem dX5_byOrders_69 : decode cX5_byOrders 69 = .ok (.goto (-39), 3) := by decide +kernel
theorem dX5_byOrders_72 : decode cX5_byOrders 72 = .ok (.aload_n 0, 1) := by decide +kernel
theorem dX5_byOrders_73 : decode cX5_byOrders 73 = .ok (.iload_n 3, 1) := by decide +kernel
theorem dX5_byOrders_74 : decode cX5_byOrders 74 = .ok (.invokevirtual 173, 3) := by decide +kernel
theorem dX5_byOrders_77 : decode cX5_byOrders 77 = .ok (.ireturn, 1) := by decide +kernel
set_option maxRecDepth 20000 in
theorem ggX5_byTables_X5_isSet : GoodIn wsX5_byTables wsX5_isSet := goodIn_r _ [9, 3, 10, 11, 12, 8, 13, 38, 39, 40, 41, 42, 43, 44, 45, 46, 47, 48, 49, 50, 51, 52, 53, 54, 55, 56, 57] (by decide +kernel) (by decide +kernel)
set_option maxRecDepth 20000 in
theorem gX5_byTables_X5_isSet : GoodIn wsX5_byTables (wsV RX5 94 RX5 yX5_isSet wsX5_isSet) := goodIn_app (goodIn_of _ (by decide +kernel)) ggX5_byTables_X5_isSet
set_option maxRecDepth 20000 in
theorem ggX5_byTables_X3_tell : GoodIn wsX5_byTables wsX3_tell := goodIn_r _ [18, 19, 20, 21, 22, 23, 24, 25, 26, 17, 27, 28, 29, 30, 31, 32, 33, 34, 35, 36, 37, 58, 59, 60, 61, 62, 63] (by decide +kernel) (by decide +kernel)
set_option maxRecDepth 20000 in
theorem gX5_byTables_X3_tell : GoodIn wsX5_byTables (wsV RX5 183 RX3 yX3_tell wsX3_tell) := goodIn_app (goodIn_of _ (by decide +kernel)) ggX5_byTables_X3_tell
theorem dX5_byTables_0 : decode cX5_byTables 0 = .ok (.aload_n 0, 1) := by decide +kernel
theorem dX5_byTables_1 : decode cX5_byTables 1 = .ok (.iload_n 1, 1) := by decide +kernel
theorem dX5_byTables_2 : decode cX5_byTables 2 = .ok (.invokevirtual 94, 3) := by decide +kernel
theorem dX5_byTables_5 : decode cX5_byTables 5 = .ok (.ifCond .eq 24, 3) := by decide +kernel
theorem dX5_byTables_8 : decode cX5_byTables 8 = .ok (.aload_n 0, 1) := by decide +kernel
theorem dX5_byTables_9 : decode cX5_byTables 9 = .ok (.iload_n 2, 1) := by decide +kernel
theorem dX5_byTables_10 : decode cX5_byTables 10 = .ok (.invokevirtual 94, 3) := by decide +kernel
theorem dX5_byTables_13 : decode cX5_byTables 13 = .ok (.ifCond .eq 16, 3) := by decide +kernel
theorem dX5_byTables_16 : decode cX5_byTables 16 = .ok (.iload_n 3, 1) := by decide +kernel
theorem dX5_byTables_17 : decode cX5_byTables 17 = .ok (.iconst (-1), 1) := by decide +kernel
theorem dX5_byTables_18 : decode cX5_byTables 18 = .ok (.if_icmp .eq 14, 3) := by decide +kernel
theorem dX5_byTables_21 : decode cX5_byTables 21 = .ok (.aload_n 0, 1) := by decide +kernel
theorem dX5_byTables_22 : decode cX5_byTables 22 = .ok (.iload_n 3, 1) := by decide +kernel
theorem dX5_byTables_23 : decode cX5_byTables 23 = .ok (.invokevirtual 94, 3) := by decide +kernel
theorem dX5_byTables_26 : decode cX5_byTables 26 = .ok (.ifCond .ne 6, 3) := by decide +kernel
theorem dX5_byTables_29 : decode cX5_byTables 29 = .ok (.ldc 67, 2) := by decide +kernel
theorem dX5_byTables_31 : decode cX5_byTables 31 = .ok (.ireturn, 1) := by decide +kernel
theorem dX5_byTables_32 : decode cX5_byTables 32 = .ok (.aload_n 0, 1) := by decide +kernel
theorem dX5_byTables_33 : decode cX5_byTables 33 = .ok (.getfield 51, 3) := by decide +kernel
theorem dX5_byTables_36 : decode cX5_byTables 36 = .ok (.aload_n 0, 1) := by decide +kernel
theorem dX5_byTables_37 : decode cX5_byTables 37 = .ok (.getfield 59, 3) := by decide +kernel
theorem dX5_byTables_40 : decode cX5_byTables 40 = .ok (.getfield 68, 3) := by decide +kernel
theorem dX5_byTables_43 : decode cX5_byTables 43 = .ok (.iload_n 1, 1) := by decide +kernel
theorem dX5_byTables_44 : decode cX5_byTables 44 = .ok (.iload_n 2, 1) := by decide +kernel
theorem dX5_byTables_45 : decode cX5_byTables 45 = .ok (.iload_n 3, 1) := by decide +kernel
theorem dX5_byTables_46 : decode cX5_byTables 46 = .ok (.invokevirtual 183, 3) := by decide +kernel
theorem dX5_byTables_49 : decode cX5_byTables 49 = .ok (.ireturn, 1) := by decide +kernel
theorem dX5_count_0 : decode cX5_count 0 = .ok (.iload_n 1, 1) := by decide +kernel
theorem dX5_count_1 : decode cX5_count 1 = .ok (.tableswitch 63 0 3 #[31, 39, 47, 55], 31) := by decide +kernel
theorem dX5_count_32 : decode cX5_count 32 = .ok (.aload_n 0, 1) := by decide +kernel
theorem dX5_count_33 : decode cX5_count 33 = .ok (.getfield 59, 3) := by decide +kernel
theorem dX5_count_36 : decode cX5_count 36 = .ok (.getfield 68, 3) := by decide +kernel
theorem dX5_count_39 : decode cX5_count 39 = .ok (.ireturn, 1) := by decide +kernel
theorem dX5_count_40 : decode cX5_count 40 = .ok (.aload_n 0, 1) := by decide +kernel
theorem dX5_count_41 : decode cX5_count 41 = .ok (.getfield 59, 3) := by decide +kernel
theorem dX5_count_44 : decode cX5_count 44 = .ok (.getfield 76, 3) := by decide +kernel
theorem dX5_count_47 : decode cX5_count 47 = .ok (.ireturn, 1) := by decide +kernel
theorem dX5_count_48 : decode cX5_count 48 = .ok (.aload_n 0, 1) := by decide +kernel
theorem dX5_count_49 : decode cX5_count 49 = .ok (.getfield 30, 3) := by decide +kernel
theorem dX5_count_52 : decode cX5_count 52 = .ok (.getfield 187, 3) := by decide +kernel
theorem dX5_count_55 : decode cX5_count 55 = .ok (.ireturn, 1) := by decide +kernel
theorem dX5_count_56 : decode cX5_count 56 = .ok (.aload_n 0, 1) := by decide +kernel
theorem dX5_count_57 : decode cX5_count 57 = .ok (.getfield 37, 3) := by decide +kernel
theorem dX5_count_60 : decode cX5_count 60 = .ok (.getfield 188, 3) := by decide +kernel
theorem dX5_count_63 : decode cX5_count 63 = .ok (.ireturn, 1) := by decide +kernel
theorem dX5_count_64 : decode cX5_count 64 = .ok (.ldc 67, 2) := by decide +kernel
theorem dX5_count_66 : decode cX5_count 66 = .ok (.ireturn, 1) := by decide +kernel
theorem dX5_isWithin_0 : decode cX5_isWithin 0 = .ok (.iload_n 0, 1) := by decide +kernel
theorem dX5_isWithin_1 : decode cX5_isWithin 1 = .ok (.iload_n 1, 1) := by decide +kernel
theorem dX5_isWithin_2 : decode cX5_isWithin 2 = .ok (.if_icmp .lt 12, 3) := by decide +kernel
theorem dX5_isWithin_5 : decode cX5_isWithin 5 = .ok (.iload_n 0, 1) := by decide +kernel
theorem dX5_isWithin_6 : decode cX5_isWithin 6 = .ok (.iload_n 2, 1) := by decide +kernel
theorem dX5_isWithin_7 : decode cX5_isWithin 7 = .ok (.if_icmp .gt 7, 3) := by decide +kernel
theorem dX5_isWithin_10 : decode cX5_isWithin 10 = .ok (.iconst 1, 1) := by decide +kernel
theorem dX5_isWithin_11 : decode cX5_isWithin 11 = .ok (.goto 4, 3) := by decide +kernel
theorem dX5_isWithin_14 : decode cX5_isWithin 14 = .ok (.iconst 0, 1) := by decide +kernel
theorem dX5_isWithin_15 : decode cX5_isWithin 15 = .ok (.ireturn, 1) := by decide +kernel
set_option maxRecDepth 20000 in
theorem ggX5_isSum_X5_isWithin : GoodIn wsX5_isSum wsX5_isWithin := goodIn_r _ [4] (by decide +kernel) (by decide +kernel)
set_option maxRecDepth 20000 in
theorem gX5_isSum_X5_isWithin : GoodIn wsX5_isSum (va_wsS RX5 63 yX5_isWithin wsX5_isWithin) := goodIn_app (goodIn_of _ (by decide +kernel)) ggX5_isSum_X5_isWithin
theorem dX5_isSum_0 : decode cX5_isSum 0 = .ok (.iload_n 0, 1) := by decide +kernel
theorem dX5_isSum_1 : decode cX5_isSum 1 = .ok (.iconst 0, 1) := by decide +kernel
theorem dX5_isSum_2 : decode cX5_isSum 2 = .ok (.iconst 2, 1) := by decide +kernel
theorem dX5_isSum_3 : decode cX5_isSum 3 = .ok (.invokestatic 63, 3) := by decide +kernel
theorem dX5_isSum_6 : decode cX5_isSum 6 = .ok (.ireturn, 1) := by decide +kernel
set_option maxRecDepth 20000 in
theorem ggX5_isOrder_X5_isWithin : GoodIn wsX5_isOrder wsX5_isWithin := goodIn_r _ [6] (by decide +kernel) (by decide +kernel)
set_option maxRecDepth 20000 in
theorem gX5_isOrder_X5_isWithin : GoodIn wsX5_isOrder (va_wsS RX5 63 yX5_isWithin wsX5_isWithin) := goodIn_app (goodIn_of _ (by decide +kernel)) ggX5_isOrder_X5_isWithin
theorem dX5_isOrder_0 : decode cX5_isOrder 0 = .ok (.iload_n 1, 1) := by decide +kernel
theorem dX5_isOrder_1 : decode cX5_isOrder 1 = .ok (.iconst 0, 1) := by decide +kernel
theorem dX5_isOrder_2 : decode cX5_isOrder 2 = .ok (.aload_n 0, 1) := by decide +kernel
theorem dX5_isOrder_3 : decode cX5_isOrder 3 = .ok (.getfield 59, 3) := by decide +kernel
theorem dX5_isOrder_6 : decode cX5_isOrder 6 = .ok (.getfield 76, 3) := by decide +kernel
theorem dX5_isOrder_9 : decode cX5_isOrder 9 = .ok (.iconst 1, 1) := by decide +kernel
theorem dX5_isOrder_10 : decode cX5_isOrder 10 = .ok (.isub, 1) := by decide +kernel
theorem dX5_isOrder_11 : decode cX5_isOrder 11 = .ok (.invokestatic 63, 3) := by decide +kernel
theorem dX5_isOrder_14 : decode cX5_isOrder 14 = .ok (.ireturn, 1) := by decide +kernel
set_option maxRecDepth 20000 in
theorem ggX5_isSet_X5_isWithin : GoodIn wsX5_isSet wsX5_isWithin := goodIn_r _ [6] (by decide +kernel) (by decide +kernel)
set_option maxRecDepth 20000 in
theorem gX5_isSet_X5_isWithin : GoodIn wsX5_isSet (va_wsS RX5 63 yX5_isWithin wsX5_isWithin) := goodIn_app (goodIn_of _ (by decide +kernel)) ggX5_isSet_X5_isWithin
theorem dX5_isSet_0 : decode cX5_isSet 0 = .ok (.iload_n 1, 1) := by decide +kernel
theorem dX5_isSet_1 : decode cX5_isSet 1 = .ok (.iconst 0, 1) := by decide +kernel
theorem dX5_isSet_2 : decode cX5_isSet 2 = .ok (.aload_n 0, 1) := by decide +kernel
theorem dX5_isSet_3 : decode cX5_isSet 3 = .ok (.getfield 59, 3) := by decide +kernel
theorem dX5_isSet_6 : decode cX5_isSet 6 = .ok (.getfield 170, 3) := by decide +kernel
theorem dX5_isSet_9 : decode cX5_isSet 9 = .ok (.iconst 1, 1) := by decide +kernel
theorem dX5_isSet_10 : decode cX5_isSet 10 = .ok (.isub, 1) := by decide +kernel
theorem dX5_isSet_11 : decode cX5_isSet 11 = .ok (.invokestatic 63, 3) := by decide +kernel
theorem dX5_isSet_14 : decode cX5_isSet 14 = .ok (.ireturn, 1) := by decide +kernel
set_option maxRecDepth 20000 in
theorem ggX5_ordersWith_X1_init : GoodIn wsX5_ordersWith wsX1_init := goodIn_r _ [7, 8, 9, 10, 11, 12, 13, 14, 15, 16, 17, 18, 19, 20, 21, 22, 23, 24, 25, 4, 26, 27, 28, 29, 30, 31, 32, 33, 34, 35, 36, 37, 38, 39, 40, 41, 42, 43, 44, 45, 46, 47, 48, 49, 50, 51, 52, 53, 54, 55, 56, 66, 67, 68, 69, 70, 71, 72, 73, 74, 75, 76] (by decide +kernel) (by decide +kernel)
set_option maxRecDepth 20000 in
theorem gX5_ordersWith_X1_init : GoodIn wsX5_ordersWith (wsX1_init) := ggX5_ordersWith_X1_init
theorem dX5_ordersWith_0 : decode cX5_ordersWith 0 = .ok (.aload_n 0, 1) := by decide +kernel
theorem dX5_ordersWith_1 : decode cX5_ordersWith 1 = .ok (.getfield 11, 3) := by decide +kernel
theorem dX5_ordersWith_4 : decode cX5_ordersWith 4 = .ok (.iload_n 1, 1) := by decide +kernel
theorem dX5_ordersWith_5 : decode cX5_ordersWith 5 = .ok (.aaload, 1) := by decide +kernel
theorem dX5_ordersWith_6 : decode cX5_ordersWith 6 = .ok (.astore_n 2, 1) := by decide +kernel
theorem dX5_ordersWith_7 : decode cX5_ordersWith 7 = .ok (.aload_n 2, 1) := by decide +kernel
theorem dX5_ordersWith_8 : decode cX5_ordersWith 8 = .ok (.ifnonnull 19, 3) := by decide +kernel
theorem dX5_ordersWith_11 : decode cX5_ordersWith 11 = .ok (.new 9, 3) := by decide +kernel
theorem dX5_ordersWith_14 : decode cX5_ordersWith 14 = .ok (.dup, 1) := by decide +kernel
theorem dX5_ordersWith_15 : decode cX5_ordersWith 15 = .ok (.iload_n 1, 1) := by decide +kernel
theorem dX5_ordersWith_16 : decode cX5_ordersWith 16 = .ok (.invokespecial 212, 3) := by decide +kernel
theorem dX5_ordersWith_19 : decode cX5_ordersWith 19 = .ok (.astore_n 2, 1) := by decide +kernel
theorem dX5_ordersWith_20 : decode cX5_ordersWith 20 = .ok (.aload_n 0, 1) := by decide +kernel
theorem dX5_ordersWith_21 : decode cX5_ordersWith 21 = .ok (.getfield 11, 3) := by decide +kernel
theorem dX5_ordersWith_24 : decode cX5_ordersWith 24 = .ok (.iload_n 1, 1) := by decide +kernel
theorem dX5_ordersWith_25 : decode cX5_ordersWith 25 = .ok (.aload_n 2, 1) := by decide +kernel
theorem dX5_ordersWith_26 : decode cX5_ordersWith 26 = .ok (.aastore, 1) := by decide +kernel
theorem dX5_ordersWith_27 : decode cX5_ordersWith 27 = .ok (.aload_n 2, 1) := by decide +kernel
theorem dX5_ordersWith_28 : decode cX5_ordersWith 28 = .ok (.areturn, 1) := by decide +kernel
theorem dX5_makeZeros_0 : decode cX5_makeZeros 0 = .ok (.iconst 0, 1) := by decide +kernel
theorem dX5_makeZeros_1 : decode cX5_makeZeros 1 = .ok (.istore_n 1, 1) := by decide +kernel
theorem dX5_makeZeros_2 : decode cX5_makeZeros 2 = .ok (.iload_n 1, 1) := by decide +kernel
theorem dX5_makeZeros_3 : decode cX5_makeZeros 3 = .ok (.aload_n 0, 1) := by decide +kernel
theorem dX5_makeZeros_4 : decode cX5_makeZeros 4 = .ok (.getfield 59, 3) := by decide +kernel
theorem dX5_makeZeros_7 : decode cX5_makeZeros 7 = .ok (.getfield 76, 3) := by decide +kernel
theorem dX5_makeZeros_10 : decode cX5_makeZeros 10 = .ok (.if_icmp .ge 16, 3) := by decide +kernel
theorem dX5_makeZeros_13 : decode cX5_makeZeros 13 = .ok (.aload_n 0, 1) := by decide +kernel
theorem dX5_makeZeros_14 : decode cX5_makeZeros 14 = .ok (.getfield 20, 3) := by decide +kernel
theorem dX5_makeZeros_17 : decode cX5_makeZeros 17 = .ok (.iload_n 1, 1) := by decide +kernel
theorem dX5_makeZeros_18 : decode cX5_makeZeros 18 = .ok (.lconst 0, 1) := by decide +kernel
theorem dX5_makeZeros_19 : decode cX5_makeZeros 19 = .ok (.lastore, 1) := by decide +kernel
theorem dX5_makeZeros_20 : decode cX5_makeZeros 20 = .ok (.iinc 1 1, 3) := by decide +kernel
theorem dX5_makeZeros_23 : decode cX5_makeZeros 23 = .ok (.goto (-21), 3) := by decide +kernel
theorem dX5_makeZeros_26 : decode cX5_makeZeros 26 = .ok (.return_, 1) := by decide +kernel
theorem dX5_makeCopyOf_0 : decode cX5_makeCopyOf 0 = .ok (.iconst 0, 1) := by decide +kernel
theorem dX5_makeCopyOf_1 : decode cX5_makeCopyOf 1 = .ok (.istore_n 2, 1) := by decide +kernel
theorem dX5_makeCopyOf_2 : decode cX5_makeCopyOf 2 = .ok (.iload_n 2, 1) := by decide +kernel
theorem dX5_makeCopyOf_3 : decode cX5_makeCopyOf 3 = .ok (.aload_n 0, 1) := by decide +kernel
theorem dX5_makeCopyOf_4 : decode cX5_makeCopyOf 4 = .ok (.getfield 59, 3) := by decide +kernel
theorem dX5_makeCopyOf_7 : decode cX5_makeCopyOf 7 = .ok (.getfield 76, 3) := by decide +kernel
theorem dX5_makeCopyOf_10 : decode cX5_makeCopyOf 10 = .ok (.if_icmp .ge 24, 3) := by decide +kernel
theorem dX5_makeCopyOf_13 : decode cX5_makeCopyOf 13 = .ok (.aload_n 0, 1) := by decide +kernel
theorem dX5_makeCopyOf_14 : decode cX5_makeCopyOf 14 = .ok (.getfield 20, 3) := by decide +kernel
theorem dX5_makeCopyOf_17 : decode cX5_makeCopyOf 17 = .ok (.iload_n 2, 1) := by decide +kernel
theorem dX5_makeCopyOf_18 : decode cX5_makeCopyOf 18 = .ok (.aload_n 0, 1) := by decide +kernel
theorem dX5_makeCopyOf_19 : decode cX5_makeCopyOf 19 = .ok (.getfield 17, 3) := by decide +kernel
theorem dX5_makeCopyOf_22 : decode cX5_makeCopyOf 22 = .ok (.iload_n 1, 1) := by decide +kernel
theorem dX5_makeCopyOf_23 : decode cX5_makeCopyOf 23 = .ok (.aaload, 1) := by decide +kernel
theorem dX5_makeCopyOf_24 : decode cX5_makeCopyOf 24 = .ok (.iload_n 2, 1) := by decide +kernel
theorem dX5_makeCopyOf_25 : decode cX5_makeCopyOf 25 = .ok (.iaload, 1) := by decide +kernel
theorem dX5_makeCopyOf_26 : decode cX5_makeCopyOf 26 = .ok (.i2l, 1) := by decide +kernel
theorem dX5_makeCopyOf_27 : decode cX5_makeCopyOf 27 = .ok (.lastore, 1) := by decide +kernel
theorem dX5_makeCopyOf_28 : decode cX5_makeCopyOf 28 = .ok (.iinc 2 1, 3) := by decide +kernel
theorem dX5_makeCopyOf_31 : decode cX5_makeCopyOf 31 = .ok (.goto (-29), 3) := by decide +kernel
theorem dX5_makeCopyOf_34 : decode cX5_makeCopyOf 34 = .ok (.return_, 1) := by decide +kernel
set_option maxRecDepth 20000 in
theorem ggX5_makeProduct_X5_makeZeros : GoodIn wsX5_makeProduct wsX5_makeZeros := goodIn_r _ [8, 1, 2, 3, 16, 17, 18, 19, 20, 21, 22, 23, 24, 25, 26, 27, 28, 29, 30, 31, 32, 33, 34, 35] (by decide +kernel) (by decide +kernel)
set_option maxRecDepth 20000 in
theorem gX5_makeProduct_X5_makeZeros : GoodIn wsX5_makeProduct (wsV RX5 109 RX5 yX5_makeZeros wsX5_makeZeros) := goodIn_app (goodIn_of _ (by decide +kernel)) ggX5_makeProduct_X5_makeZeros
set_option maxRecDepth 20000 in
theorem ggX5_makeProduct_X1_times : GoodIn wsX5_makeProduct wsX1_times := goodIn_r _ [13, 14, 15, 25, 26, 27, 28, 29, 30, 31, 32, 33, 34, 35] (by decide +kernel) (by decide +kernel)
set_option maxRecDepth 20000 in
theorem gX5_makeProduct_X1_times : GoodIn wsX5_makeProduct (wsV RX5 151 RX1 yX1_times wsX1_times) := goodIn_app (goodIn_of _ (by decide +kernel)) ggX5_makeProduct_X1_times
theorem dX5_makeProduct_0 : decode cX5_makeProduct 0 = .ok (.aload_n 0, 1) := by decide +kernel
theorem dX5_makeProduct_1 : decode cX5_makeProduct 1 = .ok (.invokevirtual 109, 3) := by decide +kernel
theorem dX5_makeProduct_4 : decode cX5_makeProduct 4 = .ok (.iconst 0, 1) := by decide +kernel
theorem dX5_makeProduct_5 : decode cX5_makeProduct 5 = .ok (.istore_n 3, 1) := by decide +kernel
theorem dX5_makeProduct_6 : decode cX5_makeProduct 6 = .ok (.iload_n 3, 1) := by decide +kernel
theorem dX5_makeProduct_7 : decode cX5_makeProduct 7 = .ok (.aload_n 0, 1) := by decide +kernel
theorem dX5_makeProduct_8 : decode cX5_makeProduct 8 = .ok (.getfield 59, 3) := by decide +kernel
theorem dX5_makeProduct_11 : decode cX5_makeProduct 11 = .ok (.getfield 76, 3) := by decide +kernel
theorem dX5_makeProduct_14 : decode cX5_makeProduct 14 = .ok (.if_icmp .ge 64, 3) := by decide +kernel
theorem dX5_makeProduct_17 : decode cX5_makeProduct 17 = .ok (.aload_n 1, 1) := by decide +kernel
theorem dX5_makeProduct_18 : decode cX5_makeProduct 18 = .ok (.iload_n 3, 1) := by decide +kernel
theorem dX5_makeProduct_19 : decode cX5_makeProduct 19 = .ok (.iaload, 1) := by decide +kernel
theorem dX5_makeProduct_20 : decode cX5_makeProduct 20 = .ok (.ifCond .eq 52, 3) := by decide +kernel
theorem dX5_makeProduct_23 : decode cX5_makeProduct 23 = .ok (.iconst 0, 1) := by decide +kernel
theorem dX5_makeProduct_24 : decode cX5_makeProduct 24 = .ok (.istore 4, 2) := by decide +kernel
theorem dX5_makeProduct_26 : decode cX5_makeProduct 26 = .ok (.iload 4, 2) := by decide +kernel
theorem dX5_makeProduct_28 : decode cX5_makeProduct 28 = .ok (.aload_n 0, 1) := by decide +kernel
theorem dX5_makeProduct_29 : decode cX5_makeProduct 29 = .ok (.getfield 59, 3) := by decide +kernel
theorem dX5_makeProduct_32 : decode cX5_makeProduct 32 = .ok (.getfield 76, 3) := by decide +kernel
