set_option maxRecDepth 20000 in
theorem ggX1_init_X1_spell : GoodIn wsX1_init wsX1_spell := goodIn_r _ [20, 4, 15, 13, 51, 52, 53, 54, 55, 56, 57, 58, 59, 60, 61] (by decide +kernel) (by decide +kernel)
set_option maxRecDepth 20000 in
theorem gX1_init_X1_spell : GoodIn wsX1_init (wsV RX1 44 RX1 yX1_spell wsX1_spell) := goodIn_app (goodIn_of _ (by decide +kernel)) ggX1_init_X1_spell
set_option maxRecDepth 20000 in
theorem ggX1_init_X1_describe : GoodIn wsX1_init wsX1_describe := goodIn_r _ [24, 4, 15, 8, 9, 10, 11, 25, 26, 19, 27, 28, 29, 30, 31, 13, 32, 33, 34, 51, 52, 53, 54, 55, 56, 57, 58, 59, 60, 61] (by decide +kernel) (by decide +kernel)
set_option maxRecDepth 20000 in
theorem gX1_init_X1_describe : GoodIn wsX1_init (wsV RX1 48 RX1 yX1_describe wsX1_describe) := goodIn_app (goodIn_of _ (by decide +kernel)) ggX1_init_X1_describe
set_option maxRecDepth 20000 in
theorem ggX1_init_X1_fillProducts : GoodIn wsX1_init wsX1_fillProducts := goodIn_r _ [38, 4, 5, 7, 14, 39, 40, 41, 19, 42, 15, 28, 29, 30, 31, 13, 32, 33, 34, 25, 26, 27, 43, 44, 45, 46, 8, 47, 48, 49, 50, 51, 52, 53, 54, 55, 56, 57, 58, 59, 60, 61] (by decide +kernel) (by decide +kernel)
set_option maxRecDepth 20000 in
theorem gX1_init_X1_fillProducts : GoodIn wsX1_init (wsV RX1 51 RX1 yX1_fillProducts wsX1_fillProducts) := goodIn_app (goodIn_of _ (by decide +kernel)) ggX1_init_X1_fillProducts
theorem dX1_init_0 : decode cX1_init 0 = .ok (.aload_n 0, 1) := by decide +kernel
theorem dX1_init_1 : decode cX1_init 1 = .ok (.invokespecial 1, 3) := by decide +kernel
theorem dX1_init_4 : decode cX1_init 4 = .ok (.aload_n 0, 1) := by decide +kernel
theorem dX1_init_5 : decode cX1_init 5 = .ok (.iload_n 1, 1) := by decide +kernel
theorem dX1_init_6 : decode cX1_init 6 = .ok (.putfield 7, 3) := by decide +kernel
theorem dX1_init_9 : decode cX1_init 9 = .ok (.iconst 1, 1) := by decide +kernel
theorem dX1_init_10 : decode cX1_init 10 = .ok (.istore_n 2, 1) := by decide +kernel
theorem dX1_init_11 : decode cX1_init 11 = .ok (.iconst 2, 1) := by decide +kernel
theorem dX1_init_12 : decode cX1_init 12 = .ok (.istore_n 3, 1) := by decide +kernel
theorem dX1_init_13 : decode cX1_init 13 = .ok (.iload_n 3, 1) := by decide +kernel
theorem dX1_init_14 : decode cX1_init 14 = .ok (.iload_n 1, 1) := by decide +kernel
theorem dX1_init_15 : decode cX1_init 15 = .ok (.if_icmp .gt 13, 3) := by decide +kernel
theorem dX1_init_18 : decode cX1_init 18 = .ok (.iload_n 2, 1) := by decide +kernel
theorem dX1_init_19 : decode cX1_init 19 = .ok (.iload_n 3, 1) := by decide +kernel
theorem dX1_init_20 : decode cX1_init 20 = .ok (.imul, 1) := by decide +kernel
theorem dX1_init_21 : decode cX1_init 21 = .ok (.istore_n 2, 1) := by decide +kernel
theorem dX1_init_22 : decode cX1_init 22 = .ok (.iinc 3 1, 3) := by decide +kernel
theorem dX1_init_25 : decode cX1_init 25 = .ok (.goto (-12), 3) := by decide +kernel
theorem dX1_init_28 : decode cX1_init 28 = .ok (.aload_n 0, 1) := by decide +kernel
theorem dX1_init_29 : decode cX1_init 29 = .ok (.iload_n 2, 1) := by decide +kernel
theorem dX1_init_30 : decode cX1_init 30 = .ok (.putfield 13, 3) := by decide +kernel
theorem dX1_init_33 : decode cX1_init 33 = .ok (.aload_n 0, 1) := by decide +kernel
theorem dX1_init_34 : decode cX1_init 34 = .ok (.iconst 1, 1) := by decide +kernel
theorem dX1_init_35 : decode cX1_init 35 = .ok (.iload_n 1, 1) := by decide +kernel
theorem dX1_init_36 : decode cX1_init 36 = .ok (.iconst 1, 1) := by decide +kernel
theorem dX1_init_37 : decode cX1_init 37 = .ok (.isub, 1) := by decide +kernel
theorem dX1_init_38 : decode cX1_init 38 = .ok (.ishl, 1) := by decide +kernel
theorem dX1_init_39 : decode cX1_init 39 = .ok (.putfield 16, 3) := by decide +kernel
theorem dX1_init_42 : decode cX1_init 42 = .ok (.aload_n 0, 1) := by decide +kernel
theorem dX1_init_43 : decode cX1_init 43 = .ok (.aload_n 0, 1) := by decide +kernel
theorem dX1_init_44 : decode cX1_init 44 = .ok (.getfield 13, 3) := by decide +kernel
theorem dX1_init_47 : decode cX1_init 47 = .ok (.newarray .int, 2) := by decide +kernel
theorem dX1_init_49 : decode cX1_init 49 = .ok (.putfield 19, 3) := by decide +kernel
theorem dX1_init_52 : decode cX1_init 52 = .ok (.aload_n 0, 1) := by decide +kernel
theorem dX1_init_53 : decode cX1_init 53 = .ok (.aload_n 0, 1) := by decide +kernel
theorem dX1_init_54 : decode cX1_init 54 = .ok (.getfield 13, 3) := by decide +kernel
theorem dX1_init_57 : decode cX1_init 57 = .ok (.newarray .int, 2) := by decide +kernel
theorem dX1_init_59 : decode cX1_init 59 = .ok (.putfield 23, 3) := by decide +kernel
theorem dX1_init_62 : decode cX1_init 62 = .ok (.aload_n 0, 1) := by decide +kernel
theorem dX1_init_63 : decode cX1_init 63 = .ok (.aload_n 0, 1) := by decide +kernel
theorem dX1_init_64 : decode cX1_init 64 = .ok (.getfield 13, 3) := by decide +kernel
theorem dX1_init_67 : decode cX1_init 67 = .ok (.newarray .int, 2) := by decide +kernel
theorem dX1_init_69 : decode cX1_init 69 = .ok (.putfield 26, 3) := by decide +kernel
theorem dX1_init_72 : decode cX1_init 72 = .ok (.aload_n 0, 1) := by decide +kernel
theorem dX1_init_73 : decode cX1_init 73 = .ok (.aload_n 0, 1) := by decide +kernel
theorem dX1_init_74 : decode cX1_init 74 = .ok (.getfield 13, 3) := by decide +kernel
theorem dX1_init_77 : decode cX1_init 77 = .ok (.newarray .int, 2) := by decide +kernel
theorem dX1_init_79 : decode cX1_init 79 = .ok (.putfield 29, 3) := by decide +kernel
theorem dX1_init_82 : decode cX1_init 82 = .ok (.aload_n 0, 1) := by decide +kernel
theorem dX1_init_83 : decode cX1_init 83 = .ok (.aload_n 0, 1) := by decide +kernel
theorem dX1_init_84 : decode cX1_init 84 = .ok (.getfield 16, 3) := by decide +kernel
theorem dX1_init_87 : decode cX1_init 87 = .ok (.newarray .int, 2) := by decide +kernel
theorem dX1_init_89 : decode cX1_init 89 = .ok (.putfield 32, 3) := by decide +kernel
theorem dX1_init_92 : decode cX1_init 92 = .ok (.aload_n 0, 1) := by decide +kernel
theorem dX1_init_93 : decode cX1_init 93 = .ok (.aload_n 0, 1) := by decide +kernel
theorem dX1_init_94 : decode cX1_init 94 = .ok (.getfield 13, 3) := by decide +kernel
theorem dX1_init_97 : decode cX1_init 97 = .ok (.iload_n 1, 1) := by decide +kernel
theorem dX1_init_98 : decode cX1_init 98 = .ok (.imul, 1) := by decide +kernel
theorem dX1_init_99 : decode cX1_init 99 = .ok (.newarray .int, 2) := by decide +kernel
theorem dX1_init_101 : decode cX1_init 101 = .ok (.putfield 35, 3) := by decide +kernel
theorem dX1_init_104 : decode cX1_init 104 = .ok (.aload_n 0, 1) := by decide +kernel
theorem dX1_init_105 : decode cX1_init 105 = .ok (.aload_n 0, 1) := by decide +kernel
theorem dX1_init_106 : decode cX1_init 106 = .ok (.getfield 13, 3) := by decide +kernel
theorem dX1_init_109 : decode cX1_init 109 = .ok (.aload_n 0, 1) := by decide +kernel
theorem dX1_init_110 : decode cX1_init 110 = .ok (.getfield 13, 3) := by decide +kernel
theorem dX1_init_113 : decode cX1_init 113 = .ok (.imul, 1) := by decide +kernel
theorem dX1_init_114 : decode cX1_init 114 = .ok (.newarray .int, 2) := by decide +kernel
theorem dX1_init_116 : decode cX1_init 116 = .ok (.putfield 38, 3) := by decide +kernel
theorem dX1_init_119 : decode cX1_init 119 = .ok (.aload_n 0, 1) := by decide +kernel
theorem dX1_init_120 : decode cX1_init 120 = .ok (.iload_n 1, 1) := by decide +kernel
theorem dX1_init_121 : decode cX1_init 121 = .ok (.newarray .int, 2) := by decide +kernel
theorem dX1_init_123 : decode cX1_init 123 = .ok (.putfield 41, 3) := by decide +kernel
theorem dX1_init_126 : decode cX1_init 126 = .ok (.aload_n 0, 1) := by decide +kernel
theorem dX1_init_127 : decode cX1_init 127 = .ok (.getfield 13, 3) := by decide +kernel
theorem dX1_init_130 : decode cX1_init 130 = .ok (.iconst 1, 1) := by decide +kernel
theorem dX1_init_131 : decode cX1_init 131 = .ok (.isub, 1) := by decide +kernel
theorem dX1_init_132 : decode cX1_init 132 = .ok (.istore_n 3, 1) := by decide +kernel
theorem dX1_init_133 : decode cX1_init 133 = .ok (.iload_n 3, 1) := by decide +kernel
theorem dX1_init_134 : decode cX1_init 134 = .ok (.ifCond .lt 31, 3) := by decide +kernel
theorem dX1_init_137 : decode cX1_init 137 = .ok (.aload_n 0, 1) := by decide +kernel
theorem dX1_init_138 : decode cX1_init 138 = .ok (.iload_n 3, 1) := by decide +kernel
theorem dX1_init_139 : decode cX1_init 139 = .ok (.invokevirtual 44, 3) := by decide +kernel
theorem dX1_init_142 : decode cX1_init 142 = .ok (.aload_n 0, 1) := by decide +kernel
theorem dX1_init_143 : decode cX1_init 143 = .ok (.iload_n 3, 1) := by decide +kernel
theorem dX1_init_144 : decode cX1_init 144 = .ok (.invokevirtual 48, 3) := by decide +kernel
theorem dX1_init_147 : decode cX1_init 147 = .ok (.aload_n 0, 1) := by decide +kernel
theorem dX1_init_148 : decode cX1_init 148 = .ok (.getfield 32, 3) := by decide +kernel
theorem dX1_init_151 : decode cX1_init 151 = .ok (.aload_n 0, 1) := by decide +kernel
theorem dX1_init_152 : decode cX1_init 152 = .ok (.getfield 19, 3) := by decide +kernel
theorem dX1_init_155 : decode cX1_init 155 = .ok (.iload_n 3, 1) := by decide +kernel
theorem dX1_init_156 : decode cX1_init 156 = .ok (.iaload, 1) := by decide +kernel
theorem dX1_init_157 : decode cX1_init 157 = .ok (.iload_n 3, 1) := by decide +kernel
theorem dX1_init_158 : decode cX1_init 158 = .ok (.iastore, 1) := by decide +kernel
theorem dX1_init_159 : decode cX1_init 159 = .ok (.iinc 3 (-1), 3) := by decide +kernel
theorem dX1_init_162 : decode cX1_init 162 = .ok (.goto (-29), 3) := by decide +kernel
theorem dX1_init_165 : decode cX1_init 165 = .ok (.aload_n 0, 1) := by decide +kernel
theorem dX1_init_166 : decode cX1_init 166 = .ok (.invokevirtual 51, 3) := by decide +kernel
theorem dX1_init_169 : decode cX1_init 169 = .ok (.return_, 1) := by decide +kernel
theorem dX1_letterAt_0 : decode cX1_letterAt 0 = .ok (.aload_n 0, 1) := by decide +kernel
theorem dX1_letterAt_1 : decode cX1_letterAt 1 = .ok (.getfield 35, 3) := by decide +kernel
theorem dX1_letterAt_4 : decode cX1_letterAt 4 = .ok (.iload_n 1, 1) := by decide +kernel
theorem dX1_letterAt_5 : decode cX1_letterAt 5 = .ok (.aload_n 0, 1) := by decide +kernel
theorem dX1_letterAt_6 : decode cX1_letterAt 6 = .ok (.getfield 7, 3) := by decide +kernel
theorem dX1_letterAt_9 : decode cX1_letterAt 9 = .ok (.imul, 1) := by decide +kernel
theorem dX1_letterAt_10 : decode cX1_letterAt 10 = .ok (.iload_n 2, 1) := by decide +kernel
theorem dX1_letterAt_11 : decode cX1_letterAt 11 = .ok (.iadd, 1) := by decide +kernel
theorem dX1_letterAt_12 : decode cX1_letterAt 12 = .ok (.iaload, 1) := by decide +kernel
theorem dX1_letterAt_13 : decode cX1_letterAt 13 = .ok (.ireturn, 1) := by decide +kernel
theorem dX1_times_0 : decode cX1_times 0 = .ok (.aload_n 0, 1) := by decide +kernel
theorem dX1_times_1 : decode cX1_times 1 = .ok (.getfield 38, 3) := by decide +kernel
theorem dX1_times_4 : decode cX1_times 4 = .ok (.iload_n 1, 1) := by decide +kernel
theorem dX1_times_5 : decode cX1_times 5 = .ok (.aload_n 0, 1) := by decide +kernel
theorem dX1_times_6 : decode cX1_times 6 = .ok (.getfield 13, 3) := by decide +kernel
theorem dX1_times_9 : decode cX1_times 9 = .ok (.imul, 1) := by decide +kernel
theorem dX1_times_10 : decode cX1_times 10 = .ok (.iload_n 2, 1) := by decide +kernel
theorem dX1_times_11 : decode cX1_times 11 = .ok (.iadd, 1) := by decide +kernel
theorem dX1_times_12 : decode cX1_times 12 = .ok (.iaload, 1) := by decide +kernel
theorem dX1_times_13 : decode cX1_times 13 = .ok (.ireturn, 1) := by decide +kernel
theorem dX1_parityOf_0 : decode cX1_parityOf 0 = .ok (.aload_n 0, 1) := by decide +kernel
theorem dX1_parityOf_1 : decode cX1_parityOf 1 = .ok (.getfield 26, 3) := by decide +kernel
theorem dX1_parityOf_4 : decode cX1_parityOf 4 = .ok (.iload_n 1, 1) := by decide +kernel
theorem dX1_parityOf_5 : decode cX1_parityOf 5 = .ok (.iaload, 1) := by decide +kernel
theorem dX1_parityOf_6 : decode cX1_parityOf 6 = .ok (.iconst 1, 1) := by decide +kernel
theorem dX1_parityOf_7 : decode cX1_parityOf 7 = .ok (.iand, 1) := by decide +kernel
theorem dX1_parityOf_8 : decode cX1_parityOf 8 = .ok (.ireturn, 1) := by decide +kernel
theorem dX1_isInWideClass_0 : decode cX1_isInWideClass 0 = .ok (.aload_n 0, 1) := by decide +kernel
theorem dX1_isInWideClass_1 : decode cX1_isInWideClass 1 = .ok (.getfield 19, 3) := by decide +kernel
theorem dX1_isInWideClass_4 : decode cX1_isInWideClass 4 = .ok (.iload_n 1, 1) := by decide +kernel
theorem dX1_isInWideClass_5 : decode cX1_isInWideClass 5 = .ok (.iaload, 1) := by decide +kernel
theorem dX1_isInWideClass_6 : decode cX1_isInWideClass 6 = .ok (.iload_n 2, 1) := by decide +kernel
theorem dX1_isInWideClass_7 : decode cX1_isInWideClass 7 = .ok (.iconst (-1), 1) := by decide +kernel
theorem dX1_isInWideClass_8 : decode cX1_isInWideClass 8 = .ok (.ixor, 1) := by decide +kernel
theorem dX1_isInWideClass_9 : decode cX1_isInWideClass 9 = .ok (.iand, 1) := by decide +kernel
theorem dX1_isInWideClass_10 : decode cX1_isInWideClass 10 = .ok (.ifCond .ne 7, 3) := by decide +kernel
theorem dX1_isInWideClass_13 : decode cX1_isInWideClass 13 = .ok (.iconst 1, 1) := by decide +kernel
theorem dX1_isInWideClass_14 : decode cX1_isInWideClass 14 = .ok (.goto 4, 3) := by decide +kernel
theorem dX1_isInWideClass_17 : decode cX1_isInWideClass 17 = .ok (.iconst 0, 1) := by decide +kernel
theorem dX1_isInWideClass_18 : decode cX1_isInWideClass 18 = .ok (.ireturn, 1) := by decide +kernel
theorem dX1_descentsAddedUp_0 : decode cX1_descentsAddedUp 0 = .ok (.iconst 0, 1) := by decide +kernel
theorem dX1_descentsAddedUp_1 : decode cX1_descentsAddedUp 1 = .ok (.istore_n 2, 1) := by decide +kernel
theorem dX1_descentsAddedUp_2 : decode cX1_descentsAddedUp 2 = .ok (.iconst 0, 1) := by decide +kernel
theorem dX1_descentsAddedUp_3 : decode cX1_descentsAddedUp 3 = .ok (.istore_n 3, 1) := by decide +kernel
theorem dX1_descentsAddedUp_4 : decode cX1_descentsAddedUp 4 = .ok (.iload_n 3, 1) := by decide +kernel
theorem dX1_descentsAddedUp_5 : decode cX1_descentsAddedUp 5 = .ok (.aload_n 0, 1) := by decide +kernel
theorem dX1_descentsAddedUp_6 : decode cX1_descentsAddedUp 6 = .ok (.getfield 7, 3) := by decide +kernel
theorem dX1_descentsAddedUp_9 : decode cX1_descentsAddedUp 9 = .ok (.iconst 1, 1) := by decide +kernel
theorem dX1_descentsAddedUp_10 : decode cX1_descentsAddedUp 10 = .ok (.isub, 1) := by decide +kernel
theorem dX1_descentsAddedUp_11 : decode cX1_descentsAddedUp 11 = .ok (.if_icmp .ge 29, 3) := by decide +kernel
theorem dX1_descentsAddedUp_14 : decode cX1_descentsAddedUp 14 = .ok (.aload_n 0, 1) := by decide +kernel
theorem dX1_descentsAddedUp_15 : decode cX1_descentsAddedUp 15 = .ok (.getfield 19, 3) := by decide +kernel
theorem dX1_descentsAddedUp_18 : decode cX1_descentsAddedUp 18 = .ok (.iload_n 1, 1) := by decide +kernel
theorem dX1_descentsAddedUp_19 : decode cX1_descentsAddedUp 19 = .ok (.iaload, 1) := by decide +kernel
theorem dX1_descentsAddedUp_20 : decode cX1_descentsAddedUp 20 = .ok (.iload_n 3, 1) := by decide +kernel
theorem dX1_descentsAddedUp_21 : decode cX1_descentsAddedUp 21 = .ok (.ishr, 1) := by decide +kernel
theorem dX1_descentsAddedUp_22 : decode cX1_descentsAddedUp 22 = .ok (.iconst 1, 1) := by decide +kernel
theorem dX1_descentsAddedUp_23 : decode cX1_descentsAddedUp 23 = .ok (.iand, 1) := by decide +kernel
theorem dX1_descentsAddedUp_24 : decode cX1_descentsAddedUp 24 = .ok (.iconst 1, 1) := by decide +kernel
theorem dX1_descentsAddedUp_25 : decode cX1_descentsAddedUp 25 = .ok (.if_icmp .ne 9, 3) := by decide +kernel
theorem dX1_descentsAddedUp_28 : decode cX1_descentsAddedUp 28 = .ok (.iload_n 2, 1) := by decide +kernel
theorem dX1_descentsAddedUp_29 : decode cX1_descentsAddedUp 29 = .ok (.iload_n 3, 1) := by decide +kernel
theorem dX1_descentsAddedUp_30 : decode cX1_descentsAddedUp 30 = .ok (.iconst 1, 1) := by decide +kernel
theorem dX1_descentsAddedUp_31 : decode cX1_descentsAddedUp 31 = .ok (.iadd, 1) := by decide +kernel
theorem dX1_descentsAddedUp_32 : decode cX1_descentsAddedUp 32 = .ok (.iadd, 1) := by decide +kernel
theorem dX1_descentsAddedUp_33 : decode cX1_descentsAddedUp 33 = .ok (.istore_n 2, 1) := by decide +kernel
theorem dX1_descentsAddedUp_34 : decode cX1_descentsAddedUp 34 = .ok (.iinc 3 1, 3) := by decide +kernel
theorem dX1_descentsAddedUp_37 : decode cX1_descentsAddedUp 37 = .ok (.goto (-33), 3) := by decide +kernel
theorem dX1_descentsAddedUp_40 : decode cX1_descentsAddedUp 40 = .ok (.iload_n 2, 1) := by decide +kernel
theorem dX1_descentsAddedUp_41 : decode cX1_descentsAddedUp 41 = .ok (.ireturn, 1) := by decide +kernel
set_option maxRecDepth 20000 in
theorem ggX1_ringsOf_X1_letterAt : GoodIn wsX1_ringsOf wsX1_letterAt := goodIn_r _ [6, 7, 1, 8, 9, 10, 11, 12, 13, 14, 15, 16, 17, 18] (by decide +kernel) (by decide +kernel)
set_option maxRecDepth 20000 in
theorem gX1_ringsOf_X1_letterAt : GoodIn wsX1_ringsOf (wsV RX1 54 RX1 yX1_letterAt wsX1_letterAt) := goodIn_app (goodIn_of _ (by decide +kernel)) ggX1_ringsOf_X1_letterAt
theorem dX1_ringsOf_0 : decode cX1_ringsOf 0 = .ok (.iconst 0, 1) := by decide +kernel
theorem dX1_ringsOf_1 : decode cX1_ringsOf 1 = .ok (.istore_n 2, 1) := by decide +kernel
theorem dX1_ringsOf_2 : decode cX1_ringsOf 2 = .ok (.iconst 0, 1) := by decide +kernel
theorem dX1_ringsOf_3 : decode cX1_ringsOf 3 = .ok (.istore_n 3, 1) := by decide +kernel
theorem dX1_ringsOf_4 : decode cX1_ringsOf 4 = .ok (.iconst 0, 1) := by decide +kernel
theorem dX1_ringsOf_5 : decode cX1_ringsOf 5 = .ok (.istore 4, 2) := by decide +kernel
theorem dX1_ringsOf_7 : decode cX1_ringsOf 7 = .ok (.iload 4, 2) := by decide +kernel
theorem dX1_ringsOf_9 : decode cX1_ringsOf 9 = .ok (.aload_n 0, 1) := by decide +kernel
theorem dX1_ringsOf_10 : decode cX1_ringsOf 10 = .ok (.getfield 7, 3) := by decide +kernel
theorem dX1_ringsOf_13 : decode cX1_ringsOf 13 = .ok (.if_icmp .ge 61, 3) := by decide +kernel
theorem dX1_ringsOf_16 : decode cX1_ringsOf 16 = .ok (.iload_n 2, 1) := by decide +kernel
theorem dX1_ringsOf_17 : decode cX1_ringsOf 17 = .ok (.iload 4, 2) := by decide +kernel
theorem dX1_ringsOf_19 : decode cX1_ringsOf 19 = .ok (.ishr, 1) := by decide +kernel
theorem dX1_ringsOf_20 : decode cX1_ringsOf 20 = .ok (.iconst 1, 1) := by decide +kernel
theorem dX1_ringsOf_21 : decode cX1_ringsOf 21 = .ok (.iand, 1) := by decide +kernel
theorem dX1_ringsOf_22 : decode cX1_ringsOf 22 = .ok (.ifCond .ne 6, 3) := by decide +kernel
theorem dX1_ringsOf_25 : decode cX1_ringsOf 25 = .ok (.iinc 3 1, 3) := by decide +kernel
theorem dX1_ringsOf_28 : decode cX1_ringsOf 28 = .ok (.iload 4, 2) := by decide +kernel
theorem dX1_ringsOf_30 : decode cX1_ringsOf 30 = .ok (.istore 5, 2) := by decide +kernel
theorem dX1_ringsOf_32 : decode cX1_ringsOf 32 = .ok (.iconst 0, 1) := by decide +kernel
theorem dX1_ringsOf_33 : decode cX1_ringsOf 33 = .ok (.istore 6, 2) := by decide +kernel
theorem dX1_ringsOf_35 : decode cX1_ringsOf 35 = .ok (.iload 6, 2) := by decide +kernel
theorem dX1_ringsOf_37 : decode cX1_ringsOf 37 = .ok (.aload_n 0, 1) := by decide +kernel
theorem dX1_ringsOf_38 : decode cX1_ringsOf 38 = .ok (.getfield 7, 3) := by decide +kernel
theorem dX1_ringsOf_41 : decode cX1_ringsOf 41 = .ok (.if_icmp .ge 27, 3) := by decide +kernel
theorem dX1_ringsOf_44 : decode cX1_ringsOf 44 = .ok (.iload_n 2, 1) := by decide +kernel
theorem dX1_ringsOf_45 : decode cX1_ringsOf 45 = .ok (.iconst 1, 1) := by decide +kernel
theorem dX1_ringsOf_46 : decode cX1_ringsOf 46 = .ok (.iload 5, 2) := by decide +kernel
theorem dX1_ringsOf_48 : decode cX1_ringsOf 48 = .ok (.ishl, 1) := by decide +kernel
theorem dX1_ringsOf_49 : decode cX1_ringsOf 49 = .ok (.ior, 1) := by decide +kernel
theorem dX1_ringsOf_50 : decode cX1_ringsOf 50 = .ok (.istore_n 2, 1) := by decide +kernel
theorem dX1_ringsOf_51 : decode cX1_ringsOf 51 = .ok (.aload_n 0, 1) := by decide +kernel
theorem dX1_ringsOf_52 : decode cX1_ringsOf 52 = .ok (.iload_n 1, 1) := by decide +kernel
theorem dX1_ringsOf_53 : decode cX1_ringsOf 53 = .ok (.iload 5, 2) := by decide +kernel
theorem dX1_ringsOf_55 : decode cX1_ringsOf 55 = .ok (.invokevirtual 54, 3) := by decide +kernel
theorem dX1_ringsOf_58 : decode cX1_ringsOf 58 = .ok (.iconst 1, 1) := by decide +kernel
theorem dX1_ringsOf_59 : decode cX1_ringsOf 59 = .ok (.isub, 1) := by decide +kernel
theorem dX1_ringsOf_60 : decode cX1_ringsOf 60 = .ok (.istore 5, 2) := by decide +kernel
theorem dX1_ringsOf_62 : decode cX1_ringsOf 62 = .ok (.iinc 6 1, 3) := by decide +kernel
theorem dX1_ringsOf_65 : decode cX1_ringsOf 65 = .ok (.goto (-30), 3) := by decide +kernel
theorem dX1_ringsOf_68 : decode cX1_ringsOf 68 = .ok (.iinc 4 1, 3) := by decide +kernel
theorem dX1_ringsOf_71 : decode cX1_ringsOf 71 = .ok (.goto (-64), 3) := by decide +kernel
theorem dX1_ringsOf_74 : decode cX1_ringsOf 74 = .ok (.iload_n 3, 1) := by decide +kernel
theorem dX1_ringsOf_75 : decode cX1_ringsOf 75 = .ok (.ireturn, 1) := by decide +kernel
set_option maxRecDepth 20000 in
theorem ggX1_turned_X1_letterAt : GoodIn wsX1_turned wsX1_letterAt := goodIn_r _ [8, 9, 2, 16, 17, 18, 19, 20, 21, 22, 23, 24, 25, 26] (by decide +kernel) (by decide +kernel)
set_option maxRecDepth 20000 in
theorem gX1_turned_X1_letterAt : GoodIn wsX1_turned (wsV RX1 54 RX1 yX1_letterAt wsX1_letterAt) := goodIn_app (goodIn_of _ (by decide +kernel)) ggX1_turned_X1_letterAt
set_option maxRecDepth 20000 in
theorem ggX1_turned_X1_numberOf : GoodIn wsX1_turned wsX1_numberOf := goodIn_r _ [12, 13, 14, 7, 15] (by decide +kernel) (by decide +kernel)
set_option maxRecDepth 20000 in
theorem gX1_turned_X1_numberOf : GoodIn wsX1_turned (va_wsS RX1 58 yX1_numberOf wsX1_numberOf) := goodIn_app (goodIn_of _ (by decide +kernel)) ggX1_turned_X1_numberOf
theorem dX1_turned_0 : decode cX1_turned 0 = .ok (.iload_n 2, 1) := by decide +kernel
theorem dX1_turned_1 : decode cX1_turned 1 = .ok (.ifCond .ne 10, 3) := by decide +kernel
theorem dX1_turned_4 : decode cX1_turned 4 = .ok (.aload_n 0, 1) := by decide +kernel
theorem dX1_turned_5 : decode cX1_turned 5 = .ok (.getfield 29, 3) := by decide +kernel
theorem dX1_turned_8 : decode cX1_turned 8 = .ok (.iload_n 1, 1) := by decide +kernel
theorem dX1_turned_9 : decode cX1_turned 9 = .ok (.iaload, 1) := by decide +kernel
theorem dX1_turned_10 : decode cX1_turned 10 = .ok (.ireturn, 1) := by decide +kernel
theorem dX1_turned_11 : decode cX1_turned 11 = .ok (.iload_n 2, 1) := by decide +kernel
theorem dX1_turned_12 : decode cX1_turned 12 = .ok (.iconst 3, 1) := by decide +kernel
theorem dX1_turned_13 : decode cX1_turned 13 = .ok (.if_icmp .ne 5, 3) := by decide +kernel
theorem dX1_turned_16 : decode cX1_turned 16 = .ok (.iload_n 1, 1) := by decide +kernel
theorem dX1_turned_17 : decode cX1_turned 17 = .ok (.ireturn, 1) := by decide +kernel
theorem dX1_turned_18 : decode cX1_turned 18 = .ok (.iconst 0, 1) := by decide +kernel
theorem dX1_turned_19 : decode cX1_turned 19 = .ok (.istore_n 3, 1) := by decide +kernel
theorem dX1_turned_20 : decode cX1_turned 20 = .ok (.iload_n 3, 1) := by decide +kernel
theorem dX1_turned_21 : decode cX1_turned 21 = .ok (.aload_n 0, 1) := by decide +kernel
theorem dX1_turned_22 : decode cX1_turned 22 = .ok (.getfield 7, 3) := by decide +kernel
theorem dX1_turned_25 : decode cX1_turned 25 = .ok (.if_icmp .ge 49, 3) := by decide +kernel
theorem dX1_turned_28 : decode cX1_turned 28 = .ok (.aload_n 0, 1) := by decide +kernel
theorem dX1_turned_29 : decode cX1_turned 29 = .ok (.getfield 41, 3) := by decide +kernel
theorem dX1_turned_32 : decode cX1_turned 32 = .ok (.iload_n 3, 1) := by decide +kernel
theorem dX1_turned_33 : decode cX1_turned 33 = .ok (.iload_n 2, 1) := by decide +kernel
theorem dX1_turned_34 : decode cX1_turned 34 = .ok (.iconst 1, 1) := by decide +kernel
theorem dX1_turned_35 : decode cX1_turned 35 = .ok (.if_icmp .ne 19, 3) := by decide +kernel
theorem dX1_turned_38 : decode cX1_turned 38 = .ok (.aload_n 0, 1) := by decide +kernel
theorem dX1_turned_39 : decode cX1_turned 39 = .ok (.iload_n 1, 1) := by decide +kernel
theorem dX1_turned_40 : decode cX1_turned 40 = .ok (.aload_n 0, 1) := by decide +kernel
theorem dX1_turned_41 : decode cX1_turned 41 = .ok (.getfield 7, 3) := by decide +kernel
theorem dX1_turned_44 : decode cX1_turned 44 = .ok (.iconst 1, 1) := by decide +kernel
theorem dX1_turned_45 : decode cX1_turned 45 = .ok (.isub, 1) := by decide +kernel
theorem dX1_turned_46 : decode cX1_turned 46 = .ok (.iload_n 3, 1) := by decide +kernel
theorem dX1_turned_47 : decode cX1_turned 47 = .ok (.isub, 1) := by decide +kernel
theorem dX1_turned_48 : decode cX1_turned 48 = .ok (.invokevirtual 54, 3) := by decide +kernel
theorem dX1_turned_51 : decode cX1_turned 51 = .ok (.goto 16, 3) := by decide +kernel
theorem dX1_turned_54 : decode cX1_turned 54 = .ok (.aload_n 0, 1) := by decide +kernel
theorem dX1_turned_55 : decode cX1_turned 55 = .ok (.getfield 7, 3) := by decide +kernel
theorem dX1_turned_58 : decode cX1_turned 58 = .ok (.iconst 1, 1) := by decide +kernel
theorem dX1_turned_59 : decode cX1_turned 59 = .ok (.iadd, 1) := by decide +kernel
theorem dX1_turned_60 : decode cX1_turned 60 = .ok (.aload_n 0, 1) := by decide +kernel
theorem dX1_turned_61 : decode cX1_turned 61 = .ok (.iload_n 1, 1) := by decide +kernel
theorem dX1_turned_62 : decode cX1_turned 62 = .ok (.iload_n 3, 1) := by decide +kernel
theorem dX1_turned_63 : decode cX1_turned 63 = .ok (.invokevirtual 54, 3) := by decide +kernel
theorem dX1_turned_66 : decode cX1_turned 66 = .ok (.isub, 1) := by decide +kernel
theorem dX1_turned_67 : decode cX1_turned 67 = .ok (.iastore, 1) := by decide +kernel
theorem dX1_turned_68 : decode cX1_turned 68 = .ok (.iinc 3 1, 3) := by decide +kernel
theorem dX1_turned_71 : decode cX1_turned 71 = .ok (.goto (-51), 3) := by decide +kernel
theorem dX1_turned_74 : decode cX1_turned 74 = .ok (.aload_n 0, 1) := by decide +kernel
theorem dX1_turned_75 : decode cX1_turned 75 = .ok (.getfield 41, 3) := by decide +kernel
theorem dX1_turned_78 : decode cX1_turned 78 = .ok (.aload_n 0, 1) := by decide +kernel
theorem dX1_turned_79 : decode cX1_turned 79 = .ok (.getfield 7, 3) := by decide +kernel
theorem dX1_turned_82 : decode cX1_turned 82 = .ok (.invokestatic 58, 3) := by decide +kernel
theorem dX1_turned_85 : decode cX1_turned 85 = .ok (.ireturn, 1) := by decide +kernel
set_option maxRecDepth 20000 in
theorem ggX1_numberOf_X1_smallerBehind : GoodIn wsX1_numberOf wsX1_smallerBehind := goodIn_r _ [4] (by decide +kernel) (by decide +kernel)
set_option maxRecDepth 20000 in
theorem gX1_numberOf_X1_smallerBehind : GoodIn wsX1_numberOf (va_wsS RX1 62 yX1_smallerBehind wsX1_smallerBehind) := goodIn_app (goodIn_of _ (by decide +kernel)) ggX1_numberOf_X1_smallerBehind
theorem dX1_numberOf_0 : decode cX1_numberOf 0 = .ok (.iconst 0, 1) := by decide +kernel
theorem dX1_numberOf_1 : decode cX1_numberOf 1 = .ok (.istore_n 2, 1) := by decide +kernel
theorem dX1_numberOf_2 : decode cX1_numberOf 2 = .ok (.iconst 0, 1) := by decide +kernel
theorem dX1_numberOf_3 : decode cX1_numberOf 3 = .ok (.istore_n 3, 1) := by decide +kernel
theorem dX1_numberOf_4 : decode cX1_numberOf 4 = .ok (.iload_n 3, 1) := by decide +kernel
theorem dX1_numberOf_5 : decode cX1_numberOf 5 = .ok (.iload_n 1, 1) := by decide +kernel
theorem dX1_numberOf_6 : decode cX1_numberOf 6 = .ok (.if_icmp .ge 22, 3) := by decide +kernel
theorem dX1_numberOf_9 : decode cX1_numberOf 9 = .ok (.iload_n 2, 1) := by decide +kernel
theorem dX1_numberOf_10 : decode cX1_numberOf 10 = .ok (.iload_n 1, 1) := by decide +kernel
theorem dX1_numberOf_11 : decode cX1_numberOf 11 = .ok (.iload_n 3, 1) := by decide +kernel
theorem dX1_numberOf_12 : decode cX1_numberOf 12 = .ok (.isub, 1) := by decide +kernel
theorem dX1_numberOf_13 : decode cX1_numberOf 13 = .ok (.imul, 1) := by decide +kernel
theorem dX1_numberOf_14 : decode cX1_numberOf 14 = .ok (.aload_n 0, 1) := by decide +kernel
theorem dX1_numberOf_15 : decode cX1_numberOf 15 = .ok (.iload_n 1, 1) := by decide +kernel
theorem dX1_numberOf_16 : decode cX1_numberOf 16 = .ok (.iload_n 3, 1) := by decide +kernel
theorem dX1_numberOf_17 : decode cX1_numberOf 17 = .ok (.invokestatic 62, 3) := by decide +kernel
theorem dX1_numberOf_20 : decode cX1_numberOf 20 = .ok (.iadd, 1) := by decide +kernel
theorem dX1_numberOf_21 : decode cX1_numberOf 21 = .ok (.istore_n 2, 1) := by decide +kernel
theorem dX1_numberOf_22 : decode cX1_numberOf 22 = .ok (.iinc 3 1, 3) := by decide +kernel
theorem dX1_numberOf_25 : decode cX1_numberOf 25 = .ok (.goto (-21), 3) := by decide +kernel
theorem dX1_numberOf_28 : decode cX1_numberOf 28 = .ok (.iload_n 2, 1) := by decide +kernel
theorem dX1_numberOf_29 : decode cX1_numberOf 29 = .ok (.ireturn, 1) := by decide +kernel
theorem dX1_smallerBehind_0 : decode cX1_smallerBehind 0 = .ok (.iconst 0, 1) := by decide +kernel
theorem dX1_smallerBehind_1 : decode cX1_smallerBehind 1 = .ok (.istore_n 3, 1) := by decide +kernel
theorem dX1_smallerBehind_2 : decode cX1_smallerBehind 2 = .ok (.iload_n 2, 1) := by decide +kernel
theorem dX1_smallerBehind_3 : decode cX1_smallerBehind 3 = .ok (.iconst 1, 1) := by decide +kernel
theorem dX1_smallerBehind_4 : decode cX1_smallerBehind 4 = .ok (.iadd, 1) := by decide +kernel
theorem dX1_smallerBehind_5 : decode cX1_smallerBehind 5 = .ok (.istore 4, 2) := by decide +kernel
theorem dX1_smallerBehind_7 : decode cX1_smallerBehind 7 = .ok (.iload 4, 2) := by decide +kernel
theorem dX1_smallerBehind_9 : decode cX1_smallerBehind 9 = .ok (.iload_n 1, 1) := by decide +kernel
theorem dX1_smallerBehind_10 : decode cX1_smallerBehind 10 = .ok (.if_icmp .ge 22, 3) := by decide +kernel
theorem dX1_smallerBehind_13 : decode cX1_smallerBehind 13 = .ok (.aload_n 0, 1) := by decide +kernel
theorem dX1_smallerBehind_14 : decode cX1_smallerBehind 14 = .ok (.iload 4, 2) := by decide +kernel
theorem dX1_smallerBehind_16 : decode cX1_smallerBehind 16 = .ok (.iaload, 1) := by decide +kernel
theorem dX1_smallerBehind_17 : decode cX1_smallerBehind 17 = .ok (.aload_n 0, 1) := by decide +kernel
theorem dX1_smallerBehind_18 : decode cX1_smallerBehind 18 = .ok (.iload_n 2, 1) := by decide +kernel
theorem dX1_smallerBehind_19 : decode cX1_smallerBehind 19 = .ok (.iaload, 1) := by decide +kernel
theorem dX1_smallerBehind_20 : decode cX1_smallerBehind 20 = .ok (.if_icmp .ge 6, 3) := by decide +kernel
theorem dX1_smallerBehind_23 : decode cX1_smallerBehind 23 = .ok (.iinc 3 1, 3) := by decide +kernel
theorem dX1_smallerBehind_26 : decode cX1_smallerBehind 26 = .ok (.iinc 4 1, 3) := by decide +kernel
theorem dX1_smallerBehind_29 : decode cX1_smallerBehind 29 = .ok (.goto (-22), 3) := by decide +kernel
theorem dX1_smallerBehind_32 : decode cX1_smallerBehind 32 = .ok (.iload_n 3, 1) := by decide +kernel
theorem dX1_smallerBehind_33 : decode cX1_smallerBehind 33 = .ok (.ireturn, 1) := by decide +kernel
theorem dX1_spell_0 : decode cX1_spell 0 = .ok (.iload_n 1, 1) := by decide +kernel
theorem dX1_spell_1 : decode cX1_spell 1 = .ok (.istore_n 2, 1) := by decide +kernel
theorem dX1_spell_2 : decode cX1_spell 2 = .ok (.aload_n 0, 1) := by decide +kernel
theorem dX1_spell_3 : decode cX1_spell 3 = .ok (.getfield 7, 3) := by decide +kernel
theorem dX1_spell_6 : decode cX1_spell 6 = .ok (.iconst 1, 1) := by decide +kernel
theorem dX1_spell_7 : decode cX1_spell 7 = .ok (.isub, 1) := by decide +kernel
theorem dX1_spell_8 : decode cX1_spell 8 = .ok (.istore_n 3, 1) := by decide +kernel
theorem dX1_spell_9 : decode cX1_spell 9 = .ok (.iload_n 3, 1) := by decide +kernel
theorem dX1_spell_10 : decode cX1_spell 10 = .ok (.ifCond .lt 81, 3) := by decide +kernel
theorem dX1_spell_13 : decode cX1_spell 13 = .ok (.iload_n 2, 1) := by decide +kernel
theorem dX1_spell_14 : decode cX1_spell 14 = .ok (.aload_n 0, 1) := by decide +kernel
theorem dX1_spell_15 : decode cX1_spell 15 = .ok (.getfield 7, 3) := by decide +kernel
theorem dX1_spell_18 : decode cX1_spell 18 = .ok (.iload_n 3, 1) := by decide +kernel
theorem dX1_spell_19 : decode cX1_spell 19 = .ok (.isub, 1) := by decide +kernel
theorem dX1_spell_20 : decode cX1_spell 20 = .ok (.irem, 1) := by decide +kernel
theorem dX1_spell_21 : decode cX1_spell 21 = .ok (.iconst 1, 1) := by decide +kernel
theorem dX1_spell_22 : decode cX1_spell 22 = .ok (.iadd, 1) := by decide +kernel
theorem dX1_spell_23 : decode cX1_spell 23 = .ok (.istore 4, 2) := by decide +kernel
theorem dX1_spell_25 : decode cX1_spell 25 = .ok (.iload_n 2, 1) := by decide +kernel
theorem dX1_spell_26 : decode cX1_spell 26 = .ok (.aload_n 0, 1) := by decide +kernel
theorem dX1_spell_27 : decode cX1_spell 27 = .ok (.getfield 7, 3) := by decide +kernel
theorem dX1_spell_30 : decode cX1_spell 30 = .ok (.iload_n 3, 1) := by decide +kernel
theorem dX1_spell_31 : decode cX1_spell 31 = .ok (.isub, 1) := by decide +kernel
theorem dX1_spell_32 : decode cX1_spell 32 = .ok (.idiv, 1) := by decide +kernel
theorem dX1_spell_33 : decode cX1_spell 33 = .ok (.istore_n 2, 1) := by decide +kernel
theorem dX1_spell_34 : decode cX1_spell 34 = .ok (.aload_n 0, 1) := by decide +kernel
theorem dX1_spell_35 : decode cX1_spell 35 = .ok (.getfield 41, 3) := by decide +kernel
theorem dX1_spell_38 : decode cX1_spell 38 = .ok (.iload_n 3, 1) := by decide +kernel
theorem dX1_spell_39 : decode cX1_spell 39 = .ok (.iload 4, 2) := by decide +kernel
theorem dX1_spell_41 : decode cX1_spell 41 = .ok (.iastore, 1) := by decide +kernel
theorem dX1_spell_42 : decode cX1_spell 42 = .ok (.iload_n 3, 1) := by decide +kernel
theorem dX1_spell_43 : decode cX1_spell 43 = .ok (.iconst 1, 1) := by decide +kernel
theorem dX1_spell_44 : decode cX1_spell 44 = .ok (.iadd, 1) := by decide +kernel
theorem dX1_spell_45 : decode cX1_spell 45 = .ok (.istore 5, 2) := by decide +kernel
theorem dX1_spell_47 : decode cX1_spell 47 = .ok (.iload 5, 2) := by decide +kernel
theorem dX1_spell_49 : decode cX1_spell 49 = .ok (.aload_n 0, 1) := by decide +kernel
theorem dX1_spell_50 : decode cX1_spell 50 = .ok (.getfield 7, 3) := by decide +kernel
theorem dX1_spell_53 : decode cX1_spell 53 = .ok (.if_icmp .ge 32, 3) := by decide +kernel
theorem dX1_spell_56 : decode cX1_spell 56 = .ok (.aload_n 0, 1) := by decide +kernel
theorem dX1_spell_57 : decode cX1_spell 57 = .ok (.getfield 41, 3) := by decide +kernel
theorem dX1_spell_60 : decode cX1_spell 60 = .ok (.iload 5, 2) := by decide +kernel
theorem dX1_spell_62 : decode cX1_spell 62 = .ok (.iaload, 1) := by decide +kernel
theorem dX1_spell_63 : decode cX1_spell 63 = .ok (.iload 4, 2) := by decide +kernel
theorem dX1_spell_65 : decode cX1_spell 65 = .ok (.if_icmp .lt 14, 3) := by decide +kernel
theorem dX1_spell_68 : decode cX1_spell 68 = .ok (.aload_n 0, 1) := by decide +kernel
theorem dX1_spell_69 : decode cX1_spell 69 = .ok (.getfield 41, 3) := by decide +kernel
theorem dX1_spell_72 : decode cX1_spell 72 = .ok (.iload 5, 2) := by decide +kernel
theorem dX1_spell_74 : decode cX1_spell 74 = .ok (.dup2, 1) := by decide +kernel
theorem dX1_spell_75 : decode cX1_spell 75 = .ok (.iaload, 1) := by decide +kernel
theorem dX1_spell_76 : decode cX1_spell 76 = .ok (.iconst 1, 1) := by decide +kernel
theorem dX1_spell_77 : decode cX1_spell 77 = .ok (.iadd, 1) := by decide +kernel
theorem dX1_spell_78 : decode cX1_spell 78 = .ok (.iastore, 1) := by decide +kernel
theorem dX1_spell_79 : decode cX1_spell 79 = .ok (.iinc 5 1, 3) := by decide +kernel
theorem dX1_spell_82 : decode cX1_spell 82 = .ok (.goto (-35), 3) := by decide +kernel
theorem dX1_spell_85 : decode cX1_spell 85 = .ok (.iinc 3 (-1), 3) := by decide +kernel
theorem dX1_spell_88 : decode cX1_spell 88 = .ok (.goto (-79), 3) := by decide +kernel
theorem dX1_spell_91 : decode cX1_spell 91 = .ok (.iconst 0, 1) := by decide +kernel
theorem dX1_spell_92 : decode cX1_spell 92 = .ok (.istore_n 3, 1) := by decide +kernel
theorem dX1_spell_93 : decode cX1_spell 93 = .ok (.iload_n 3, 1) := by decide +kernel
theorem dX1_spell_94 : decode cX1_spell 94 = .ok (.aload_n 0, 1) := by decide +kernel
theorem dX1_spell_95 : decode cX1_spell 95 = .ok (.getfield 7, 3) := by decide +kernel
theorem dX1_spell_98 : decode cX1_spell 98 = .ok (.if_icmp .ge 28, 3) := by decide +kernel
theorem dX1_spell_101 : decode cX1_spell 101 = .ok (.aload_n 0, 1) := by decide +kernel
theorem dX1_spell_102 : decode cX1_spell 102 = .ok (.getfield 35, 3) := by decide +kernel
theorem dX1_spell_105 : decode cX1_spell 105 = .ok (.iload_n 1, 1) := by decide +kernel
theorem dX1_spell_106 : decode cX1_spell 106 = .ok (.aload_n 0, 1) := by decide +kernel
theorem dX1_spell_107 : decode cX1_spell 107 = .ok (.getfield 7, 3) := by decide +kernel
theorem dX1_spell_110 : decode cX1_spell 110 = .ok (.imul, 1) := by decide +kernel
theorem dX1_spell_111 : decode cX1_spell 111 = .ok (.iload_n 3, 1) := by decide +kernel
theorem dX1_spell_112 : decode cX1_spell 112 = .ok (.iadd, 1) := by decide +kernel
theorem dX1_spell_113 : decode cX1_spell 113 = .ok (.aload_n 0, 1) := by decide +kernel
theorem dX1_spell_114 : decode cX1_spell 114 = .ok (.getfield 41, 3) := by decide +kernel
theorem dX1_spell_117 : decode cX1_spell 117 = .ok (.iload_n 3, 1) := by decide +kernel
theorem dX1_spell_118 : decode cX1_spell 118 = .ok (.iaload, 1) := by decide +kernel
theorem dX1_spell_119 : decode cX1_spell 119 = .ok (.iastore, 1) := by decide +kernel
theorem dX1_spell_120 : decode cX1_spell 120 = .ok (.iinc 3 1, 3) := by decide +kernel
theorem dX1_spell_123 : decode cX1_spell 123 = .ok (.goto (-30), 3) := by decide +kernel
theorem dX1_spell_126 : decode cX1_spell 126 = .ok (.return_, 1) := by decide +kernel
set_option maxRecDepth 20000 in
theorem ggX1_describe_X1_smallerBehind : GoodIn wsX1_describe wsX1_smallerBehind := goodIn_r _ [10] (by decide +kernel) (by decide +kernel)
set_option maxRecDepth 20000 in
theorem gX1_describe_X1_smallerBehind : GoodIn wsX1_describe (va_wsS RX1 62 yX1_smallerBehind wsX1_smallerBehind) := goodIn_app (goodIn_of _ (by decide +kernel)) ggX1_describe_X1_smallerBehind
set_option maxRecDepth 20000 in
theorem ggX1_describe_X1_letterAt : GoodIn wsX1_describe wsX1_letterAt := goodIn_r _ [14, 15, 1, 19, 20, 21, 22, 23, 24, 25, 26, 27, 28, 29] (by decide +kernel) (by decide +kernel)
set_option maxRecDepth 20000 in
theorem gX1_describe_X1_letterAt : GoodIn wsX1_describe (wsV RX1 54 RX1 yX1_letterAt wsX1_letterAt) := goodIn_app (goodIn_of _ (by decide +kernel)) ggX1_describe_X1_letterAt
set_option maxRecDepth 20000 in
theorem ggX1_describe_X1_numberOf : GoodIn wsX1_describe wsX1_numberOf := goodIn_r _ [18, 7, 8, 9, 10] (by decide +kernel) (by decide +kernel)
set_option maxRecDepth 20000 in
theorem gX1_describe_X1_numberOf : GoodIn wsX1_describe (va_wsS RX1 58 yX1_numberOf wsX1_numberOf) := goodIn_app (goodIn_of _ (by decide +kernel)) ggX1_describe_X1_numberOf
theorem dX1_describe_0 : decode cX1_describe 0 = .ok (.iconst 0, 1) := by decide +kernel
theorem dX1_describe_1 : decode cX1_describe 1 = .ok (.istore_n 2, 1) := by decide +kernel
theorem dX1_describe_2 : decode cX1_describe 2 = .ok (.iconst 0, 1) := by decide +kernel
theorem dX1_describe_3 : decode cX1_describe 3 = .ok (.istore_n 3, 1) := by decide +kernel
theorem dX1_describe_4 : decode cX1_describe 4 = .ok (.iconst 0, 1) := by decide +kernel
theorem dX1_describe_5 : decode cX1_describe 5 = .ok (.istore 4, 2) := by decide +kernel
theorem dX1_describe_7 : decode cX1_describe 7 = .ok (.iconst 0, 1) := by decide +kernel
theorem dX1_describe_8 : decode cX1_describe 8 = .ok (.istore 5, 2) := by decide +kernel
theorem dX1_describe_10 : decode cX1_describe 10 = .ok (.iload 5, 2) := by decide +kernel
theorem dX1_describe_12 : decode cX1_describe 12 = .ok (.aload_n 0, 1) := by decide +kernel
theorem dX1_describe_13 : decode cX1_describe 13 = .ok (.getfield 7, 3) := by decide +kernel
theorem dX1_describe_16 : decode cX1_describe 16 = .ok (.if_icmp .ge 95, 3) := by decide +kernel
theorem dX1_describe_19 : decode cX1_describe 19 = .ok (.iload 4, 2) := by decide +kernel
theorem dX1_describe_21 : decode cX1_describe 21 = .ok (.aload_n 0, 1) := by decide +kernel
theorem dX1_describe_22 : decode cX1_describe 22 = .ok (.getfield 41, 3) := by decide +kernel
theorem dX1_describe_25 : decode cX1_describe 25 = .ok (.aload_n 0, 1) := by decide +kernel
theorem dX1_describe_26 : decode cX1_describe 26 = .ok (.getfield 7, 3) := by decide +kernel
theorem dX1_describe_29 : decode cX1_describe 29 = .ok (.iload 5, 2) := by decide +kernel
theorem dX1_describe_31 : decode cX1_describe 31 = .ok (.invokestatic 62, 3) := by decide +kernel
theorem dX1_describe_34 : decode cX1_describe 34 = .ok (.iadd, 1) := by decide +kernel
theorem dX1_describe_35 : decode cX1_describe 35 = .ok (.istore 4, 2) := by decide +kernel
theorem dX1_describe_37 : decode cX1_describe 37 = .ok (.iload 5, 2) := by decide +kernel
theorem dX1_describe_39 : decode cX1_describe 39 = .ok (.aload_n 0, 1) := by decide +kernel
theorem dX1_describe_40 : decode cX1_describe 40 = .ok (.getfield 7, 3) := by decide +kernel
theorem dX1_describe_43 : decode cX1_describe 43 = .ok (.iconst 1, 1) := by decide +kernel
theorem dX1_describe_44 : decode cX1_describe 44 = .ok (.isub, 1) := by decide +kernel
theorem dX1_describe_45 : decode cX1_describe 45 = .ok (.if_icmp .ge 60, 3) := by decide +kernel
theorem dX1_describe_48 : decode cX1_describe 48 = .ok (.aload_n 0, 1) := by decide +kernel
theorem dX1_describe_49 : decode cX1_describe 49 = .ok (.getfield 41, 3) := by decide +kernel
theorem dX1_describe_52 : decode cX1_describe 52 = .ok (.iload 5, 2) := by decide +kernel
theorem dX1_describe_54 : decode cX1_describe 54 = .ok (.iaload, 1) := by decide +kernel
theorem dX1_describe_55 : decode cX1_describe 55 = .ok (.aload_n 0, 1) := by decide +kernel
theorem dX1_describe_56 : decode cX1_describe 56 = .ok (.getfield 41, 3) := by decide +kernel
theorem dX1_describe_59 : decode cX1_describe 59 = .ok (.iload 5, 2) := by decide +kernel
theorem dX1_describe_61 : decode cX1_describe 61 = .ok (.iconst 1, 1) := by decide +kernel
theorem dX1_describe_62 : decode cX1_describe 62 = .ok (.iadd, 1) := by decide +kernel
theorem dX1_describe_63 : decode cX1_describe 63 = .ok (.iaload, 1) := by decide +kernel
theorem dX1_describe_64 : decode cX1_describe 64 = .ok (.if_icmp .le 41, 3) := by decide +kernel
theorem dX1_describe_67 : decode cX1_describe 67 = .ok (.iload_n 2, 1) := by decide +kernel
theorem dX1_describe_68 : decode cX1_describe 68 = .ok (.iconst 1, 1) := by decide +kernel
theorem dX1_describe_69 : decode cX1_describe 69 = .ok (.iload 5, 2) := by decide +kernel
theorem dX1_describe_71 : decode cX1_describe 71 = .ok (.ishl, 1) := by decide +kernel
theorem dX1_describe_72 : decode cX1_describe 72 = .ok (.ior, 1) := by decide +kernel
theorem dX1_describe_73 : decode cX1_describe 73 = .ok (.istore_n 2, 1) := by decide +kernel
theorem dX1_describe_74 : decode cX1_describe 74 = .ok (.iload 5, 2) := by decide +kernel
theorem dX1_describe_76 : decode cX1_describe 76 = .ok (.ifCond .le 29, 3) := by decide +kernel
theorem dX1_describe_79 : decode cX1_describe 79 = .ok (.aload_n 0, 1) := by decide +kernel
theorem dX1_describe_80 : decode cX1_describe 80 = .ok (.getfield 41, 3) := by decide +kernel
theorem dX1_describe_83 : decode cX1_describe 83 = .ok (.iload 5, 2) := by decide +kernel
theorem dX1_describe_85 : decode cX1_describe 85 = .ok (.iaload, 1) := by decide +kernel
theorem dX1_describe_86 : decode cX1_describe 86 = .ok (.aload_n 0, 1) := by decide +kernel
theorem dX1_describe_87 : decode cX1_describe 87 = .ok (.getfield 41, 3) := by decide +kernel
theorem dX1_describe_90 : decode cX1_describe 90 = .ok (.iload 5, 2) := by decide +kernel
theorem dX1_describe_92 : decode cX1_describe 92 = .ok (.iconst 1, 1) := by decide +kernel
theorem dX1_describe_93 : decode cX1_describe 93 = .ok (.isub, 1) := by decide +kernel
theorem dX1_describe_94 : decode cX1_describe 94 = .ok (.iaload, 1) := by decide +kernel
theorem dX1_describe_95 : decode cX1_describe 95 = .ok (.if_icmp .le 10, 3) := by decide +kernel
theorem dX1_describe_98 : decode cX1_describe 98 = .ok (.iload_n 3, 1) := by decide +kernel
theorem dX1_describe_99 : decode cX1_describe 99 = .ok (.iconst 1, 1) := by decide +kernel
theorem dX1_describe_100 : decode cX1_describe 100 = .ok (.iload 5, 2) := by decide +kernel
theorem dX1_describe_102 : decode cX1_describe 102 = .ok (.ishl, 1) := by decide +kernel
theorem dX1_describe_103 : decode cX1_describe 103 = .ok (.ior, 1) := by decide +kernel
theorem dX1_describe_104 : decode cX1_describe 104 = .ok (.istore_n 3, 1) := by decide +kernel
theorem dX1_describe_105 : decode cX1_describe 105 = .ok (.iinc 5 1, 3) := by decide +kernel
theorem dX1_describe_108 : decode cX1_describe 108 = .ok (.goto (-98), 3) := by decide +kernel
theorem dX1_describe_111 : decode cX1_describe 111 = .ok (.aload_n 0, 1) := by decide +kernel
theorem dX1_describe_112 : decode cX1_describe 112 = .ok (.getfield 19, 3) := by decide +kernel
theorem dX1_describe_115 : decode cX1_describe 115 = .ok (.iload_n 1, 1) := by decide +kernel
theorem dX1_describe_116 : decode cX1_describe 116 = .ok (.iload_n 2, 1) := by decide +kernel
theorem dX1_describe_117 : decode cX1_describe 117 = .ok (.iastore, 1) := by decide +kernel
theorem dX1_describe_118 : decode cX1_describe 118 = .ok (.aload_n 0, 1) := by decide +kernel
theorem dX1_describe_119 : decode cX1_describe 119 = .ok (.getfield 23, 3) := by decide +kernel
theorem dX1_describe_122 : decode cX1_describe 122 = .ok (.iload_n 1, 1) := by decide +kernel
theorem dX1_describe_123 : decode cX1_describe 123 = .ok (.iload_n 3, 1) := by decide +kernel
theorem dX1_describe_124 : decode cX1_describe 124 = .ok (.iastore, 1) := by decide +kernel
theorem dX1_describe_125 : decode cX1_describe 125 = .ok (.aload_n 0, 1) := by decide +kernel
theorem dX1_describe_126 : decode cX1_describe 126 = .ok (.getfield 26, 3) := by decide +kernel
theorem dX1_describe_129 : decode cX1_describe 129 = .ok (.iload_n 1, 1) := by decide +kernel
theorem dX1_describe_130 : decode cX1_describe 130 = .ok (.iload 4, 2) := by decide +kernel
theorem dX1_describe_132 : decode cX1_describe 132 = .ok (.iastore, 1) := by decide +kernel
theorem dX1_describe_133 : decode cX1_describe 133 = .ok (.iconst 0, 1) := by decide +kernel
theorem dX1_describe_134 : decode cX1_describe 134 = .ok (.istore 5, 2) := by decide +kernel
theorem dX1_describe_136 : decode cX1_describe 136 = .ok (.iload 5, 2) := by decide +kernel
theorem dX1_describe_138 : decode cX1_describe 138 = .ok (.aload_n 0, 1) := by decide +kernel
theorem dX1_describe_139 : decode cX1_describe 139 = .ok (.getfield 7, 3) := by decide +kernel
theorem dX1_describe_142 : decode cX1_describe 142 = .ok (.if_icmp .ge 27, 3) := by decide +kernel
theorem dX1_describe_145 : decode cX1_describe 145 = .ok (.aload_n 0, 1) := by decide +kernel
theorem dX1_describe_146 : decode cX1_describe 146 = .ok (.getfield 41, 3) := by decide +kernel
theorem dX1_describe_149 : decode cX1_describe 149 = .ok (.aload_n 0, 1) := by decide +kernel
theorem dX1_describe_150 : decode cX1_describe 150 = .ok (.iload_n 1, 1) := by decide +kernel
theorem dX1_describe_151 : decode cX1_describe 151 = .ok (.iload 5, 2) := by decide +kernel
theorem dX1_describe_153 : decode cX1_describe 153 = .ok (.invokevirtual 54, 3) := by decide +kernel
theorem dX1_describe_156 : decode cX1_describe 156 = .ok (.iconst 1, 1) := by decide +kernel
theorem dX1_describe_157 : decode cX1_describe 157 = .ok (.isub, 1) := by decide +kernel
theorem dX1_describe_158 : decode cX1_describe 158 = .ok (.iload 5, 2) := by decide +kernel
theorem dX1_describe_160 : decode cX1_describe 160 = .ok (.iconst 1, 1) := by decide +kernel
theorem dX1_describe_161 : decode cX1_describe 161 = .ok (.iadd, 1) := by decide +kernel
theorem dX1_describe_162 : decode cX1_describe 162 = .ok (.iastore, 1) := by decide +kernel
theorem dX1_describe_163 : decode cX1_describe 163 = .ok (.iinc 5 1, 3) := by decide +kernel
theorem dX1_describe_166 : decode cX1_describe 166 = .ok (.goto (-30), 3) := by decide +kernel
theorem dX1_describe_169 : decode cX1_describe 169 = .ok (.aload_n 0, 1) := by decide +kernel
theorem dX1_describe_170 : decode cX1_describe 170 = .ok (.getfield 29, 3) := by decide +kernel
theorem dX1_describe_173 : decode cX1_describe 173 = .ok (.iload_n 1, 1) := by decide +kernel
theorem dX1_describe_174 : decode cX1_describe 174 = .ok (.aload_n 0, 1) := by decide +kernel
theorem dX1_describe_175 : decode cX1_describe 175 = .ok (.getfield 41, 3) := by decide +kernel
theorem dX1_describe_178 : decode cX1_describe 178 = .ok (.aload_n 0, 1) := by decide +kernel
theorem dX1_describe_179 : decode cX1_describe 179 = .ok (.getfield 7, 3) := by decide +kernel
theorem dX1_describe_182 : decode cX1_describe 182 = .ok (.invokestatic 58, 3) := by decide +kernel
theorem dX1_describe_185 : decode cX1_describe 185 = .ok (.iastore, 1) := by decide +kernel
theorem dX1_describe_186 : decode cX1_describe 186 = .ok (.return_, 1) := by decide +kernel
set_option maxRecDepth 20000 in
theorem ggX1_fillProducts_X1_withExchanged : GoodIn wsX1_fillProducts wsX1_withExchanged := goodIn_r _ [9, 1, 10, 11, 12, 13, 8, 14, 15, 16, 17, 18, 19, 20, 21, 31, 32, 33, 34, 35, 36, 37, 38, 39, 40, 41] (by decide +kernel) (by decide +kernel)
set_option maxRecDepth 20000 in
theorem gX1_fillProducts_X1_withExchanged : GoodIn wsX1_fillProducts (wsV RX1 66 RX1 yX1_withExchanged wsX1_withExchanged) := goodIn_app (goodIn_of _ (by decide +kernel)) ggX1_fillProducts_X1_withExchanged
set_option maxRecDepth 20000 in
theorem ggX1_fillProducts_X1_firstDescent : GoodIn wsX1_fillProducts wsX1_firstDescent := goodIn_r _ [25, 1, 26, 31, 32, 33, 34, 35, 36, 37, 38, 39, 40, 41] (by decide +kernel) (by decide +kernel)
set_option maxRecDepth 20000 in
theorem gX1_fillProducts_X1_firstDescent : GoodIn wsX1_fillProducts (wsV RX1 69 RX1 yX1_firstDescent wsX1_firstDescent) := goodIn_app (goodIn_of _ (by decide +kernel)) ggX1_fillProducts_X1_firstDescent
set_option maxRecDepth 20000 in
theorem ggX1_fillProducts_X1_times : GoodIn wsX1_fillProducts wsX1_times := goodIn_r _ [30, 4, 2, 31, 32, 33, 34, 35, 36, 37, 38, 39, 40, 41] (by decide +kernel) (by decide +kernel)
set_option maxRecDepth 20000 in
theorem gX1_fillProducts_X1_times : GoodIn wsX1_fillProducts (wsV RX1 73 RX1 yX1_times wsX1_times) := goodIn_app (goodIn_of _ (by decide +kernel)) ggX1_fillProducts_X1_times
theorem dX1_fillProducts_0 : decode cX1_fillProducts 0 = .ok (.aload_n 0, 1) := by decide +kernel
theorem dX1_fillProducts_1 : decode cX1_fillProducts 1 = .ok (.getfield 7, 3) := by decide +kernel
theorem dX1_fillProducts_4 : decode cX1_fillProducts 4 = .ok (.iconst 1, 1) := by decide +kernel
theorem dX1_fillProducts_5 : decode cX1_fillProducts 5 = .ok (.isub, 1) := by decide +kernel
theorem dX1_fillProducts_6 : decode cX1_fillProducts 6 = .ok (.istore_n 1, 1) := by decide +kernel
theorem dX1_fillProducts_7 : decode cX1_fillProducts 7 = .ok (.aload_n 0, 1) := by decide +kernel
theorem dX1_fillProducts_8 : decode cX1_fillProducts 8 = .ok (.getfield 13, 3) := by decide +kernel
theorem dX1_fillProducts_11 : decode cX1_fillProducts 11 = .ok (.iload_n 1, 1) := by decide +kernel
theorem dX1_fillProducts_12 : decode cX1_fillProducts 12 = .ok (.imul, 1) := by decide +kernel
theorem dX1_fillProducts_13 : decode cX1_fillProducts 13 = .ok (.newarray .int, 2) := by decide +kernel
theorem dX1_fillProducts_15 : decode cX1_fillProducts 15 = .ok (.astore_n 2, 1) := by decide +kernel
theorem dX1_fillProducts_16 : decode cX1_fillProducts 16 = .ok (.iconst 0, 1) := by decide +kernel
theorem dX1_fillProducts_17 : decode cX1_fillProducts 17 = .ok (.istore_n 3, 1) := by decide +kernel
theorem dX1_fillProducts_18 : decode cX1_fillProducts 18 = .ok (.iload_n 3, 1) := by decide +kernel
theorem dX1_fillProducts_19 : decode cX1_fillProducts 19 = .ok (.aload_n 0, 1) := by decide +kernel
theorem dX1_fillProducts_20 : decode cX1_fillProducts 20 = .ok (.getfield 13, 3) := by decide +kernel
theorem dX1_fillProducts_23 : decode cX1_fillProducts 23 = .ok (.if_icmp .ge 51, 3) := by decide +kernel
theorem dX1_fillProducts_26 : decode cX1_fillProducts 26 = .ok (.iconst 0, 1) := by decide +kernel
theorem dX1_fillProducts_27 : decode cX1_fillProducts 27 = .ok (.istore 4, 2) := by decide +kernel
theorem dX1_fillProducts_29 : decode cX1_fillProducts 29 = .ok (.iload 4, 2) := by decide +kernel
theorem dX1_fillProducts_31 : decode cX1_fillProducts 31 = .ok (.iload_n 1, 1) := by decide +kernel
theorem dX1_fillProducts_32 : decode cX1_fillProducts 32 = .ok (.if_icmp .ge 24, 3) := by decide +kernel
theorem dX1_fillProducts_35 : decode cX1_fillProducts 35 = .ok (.aload_n 2, 1) := by decide +kernel
theorem dX1_fillProducts_36 : decode cX1_fillProducts 36 = .ok (.iload_n 3, 1) := by decide +kernel
theorem dX1_fillProducts_37 : decode cX1_fillProducts 37 = .ok (.iload_n 1, 1) := by decide +kernel
theorem dX1_fillProducts_38 : decode cX1_fillProducts 38 = .ok (.imul, 1) := by decide +kernel
theorem dX1_fillProducts_39 : decode cX1_fillProducts 39 = .ok (.iload 4, 2) := by decide +kernel
theorem dX1_fillProducts_41 : decode cX1_fillProducts 41 = .ok (.iadd, 1) := by decide +kernel
theorem dX1_fillProducts_42 : decode cX1_fillProducts 42 = .ok (.aload_n 0, 1) := by decide +kernel
theorem dX1_fillProducts_43 : decode cX1_fillProducts 43 = .ok (.iload_n 3, 1) := by decide +kernel
theorem dX1_fillProducts_44 : decode cX1_fillProducts 44 = .ok (.iload 4, 2) := by decide +kernel
theorem dX1_fillProducts_46 : decode cX1_fillProducts 46 = .ok (.invokevirtual 66, 3) := by decide +kernel
theorem dX1_fillProducts_49 : decode cX1_fillProducts 49 = .ok (.iastore, 1) := by decide +kernel
theorem dX1_fillProducts_50 : decode cX1_fillProducts 50 = .ok (.iinc 4 1, 3) := by decide +kernel
theorem dX1_fillProducts_53 : decode cX1_fillProducts 53 = .ok (.goto (-24), 3) := by decide +kernel
theorem dX1_fillProducts_56 : decode cX1_fillProducts 56 = .ok (.aload_n 0, 1) := by decide +kernel
theorem dX1_fillProducts_57 : decode cX1_fillProducts 57 = .ok (.getfield 38, 3) := by decide +kernel
theorem dX1_fillProducts_60 : decode cX1_fillProducts 60 = .ok (.iload_n 3, 1) := by decide +kernel
theorem dX1_fillProducts_61 : decode cX1_fillProducts 61 = .ok (.aload_n 0, 1) := by decide +kernel
theorem dX1_fillProducts_62 : decode cX1_fillProducts 62 = .ok (.getfield 13, 3) := by decide +kernel
theorem dX1_fillProducts_65 : decode cX1_fillProducts 65 = .ok (.imul, 1) := by decide +kernel
theorem dX1_fillProducts_66 : decode cX1_fillProducts 66 = .ok (.iload_n 3, 1) := by decide +kernel
theorem dX1_fillProducts_67 : decode cX1_fillProducts 67 = .ok (.iastore, 1) := by decide +kernel
theorem dX1_fillProducts_68 : decode cX1_fillProducts 68 = .ok (.iinc 3 1, 3) := by decide +kernel
theorem dX1_fillProducts_71 : decode cX1_fillProducts 71 = .ok (.goto (-53), 3) := by decide +kernel
theorem dX1_fillProducts_74 : decode cX1_fillProducts 74 = .ok (.iconst 1, 1) := by decide +kernel
theorem dX1_fillProducts_75 : decode cX1_fillProducts 75 = .ok (.istore_n 3, 1) := by decide +kernel
theorem dX1_fillProducts_76 : decode cX1_fillProducts 76 = .ok (.iload_n 3, 1) := by decide +kernel
theorem dX1_fillProducts_77 : decode cX1_fillProducts 77 = .ok (.aload_n 0, 1) := by decide +kernel
theorem dX1_fillProducts_78 : decode cX1_fillProducts 78 = .ok (.getfield 13, 3) := by decide +kernel
theorem dX1_fillProducts_81 : decode cX1_fillProducts 81 = .ok (.if_icmp .ge 73, 3) := by decide +kernel
theorem dX1_fillProducts_84 : decode cX1_fillProducts 84 = .ok (.aload_n 0, 1) := by decide +kernel
theorem dX1_fillProducts_85 : decode cX1_fillProducts 85 = .ok (.iload_n 3, 1) := by decide +kernel
theorem dX1_fillProducts_86 : decode cX1_fillProducts 86 = .ok (.invokevirtual 69, 3) := by decide +kernel
theorem dX1_fillProducts_89 : decode cX1_fillProducts 89 = .ok (.istore 4, 2) := by decide +kernel
theorem dX1_fillProducts_91 : decode cX1_fillProducts 91 = .ok (.aload_n 2, 1) := by decide +kernel
theorem dX1_fillProducts_92 : decode cX1_fillProducts 92 = .ok (.iload_n 3, 1) := by decide +kernel
theorem dX1_fillProducts_93 : decode cX1_fillProducts 93 = .ok (.iload_n 1, 1) := by decide +kernel
theorem dX1_fillProducts_94 : decode cX1_fillProducts 94 = .ok (.imul, 1) := by decide +kernel
theorem dX1_fillProducts_95 : decode cX1_fillProducts 95 = .ok (.iload 4, 2) := by decide +kernel
theorem dX1_fillProducts_97 : decode cX1_fillProducts 97 = .ok (.iadd, 1) := by decide +kernel
theorem dX1_fillProducts_98 : decode cX1_fillProducts 98 = .ok (.iaload, 1) := by decide +kernel
theorem dX1_fillProducts_99 : decode cX1_fillProducts 99 = .ok (.istore 5, 2) := by decide +kernel
theorem dX1_fillProducts_101 : decode cX1_fillProducts 101 = .ok (.iconst 0, 1) := by decide +kernel
theorem dX1_fillProducts_102 : decode cX1_fillProducts 102 = .ok (.istore 6, 2) := by decide +kernel
theorem dX1_fillProducts_104 : decode cX1_fillProducts 104 = .ok (.iload 6, 2) := by decide +kernel
theorem dX1_fillProducts_106 : decode cX1_fillProducts 106 = .ok (.aload_n 0, 1) := by decide +kernel
theorem dX1_fillProducts_107 : decode cX1_fillProducts 107 = .ok (.getfield 13, 3) := by decide +kernel
theorem dX1_fillProducts_110 : decode cX1_fillProducts 110 = .ok (.if_icmp .ge 38, 3) := by decide +kernel
theorem dX1_fillProducts_113 : decode cX1_fillProducts 113 = .ok (.aload_n 0, 1) := by decide +kernel
theorem dX1_fillProducts_114 : decode cX1_fillProducts 114 = .ok (.getfield 38, 3) := by decide +kernel
theorem dX1_fillProducts_117 : decode cX1_fillProducts 117 = .ok (.iload 6, 2) := by decide +kernel
theorem dX1_fillProducts_119 : decode cX1_fillProducts 119 = .ok (.aload_n 0, 1) := by decide +kernel
theorem dX1_fillProducts_120 : decode cX1_fillProducts 120 = .ok (.getfield 13, 3) := by decide +kernel
theorem dX1_fillProducts_123 : decode cX1_fillProducts 123 = .ok (.imul, 1) := by decide +kernel
theorem dX1_fillProducts_124 : decode cX1_fillProducts 124 = .ok (.iload_n 3, 1) := by decide +kernel
theorem dX1_fillProducts_125 : decode cX1_fillProducts 125 = .ok (.iadd, 1) := by decide +kernel
theorem dX1_fillProducts_126 : decode cX1_fillProducts 126 = .ok (.aload_n 2, 1) := by decide +kernel
theorem dX1_fillProducts_127 : decode cX1_fillProducts 127 = .ok (.aload_n 0, 1) := by decide +kernel
theorem dX1_fillProducts_128 : decode cX1_fillProducts 128 = .ok (.iload 6, 2) := by decide +kernel
theorem dX1_fillProducts_130 : decode cX1_fillProducts 130 = .ok (.iload 5, 2) := by decide +kernel
theorem dX1_fillProducts_132 : decode cX1_fillProducts 132 = .ok (.invokevirtual 73, 3) := by decide +kernel
theorem dX1_fillProducts_135 : decode cX1_fillProducts 135 = .ok (.iload_n 1, 1) := by decide +kernel
theorem dX1_fillProducts_136 : decode cX1_fillProducts 136 = .ok (.imul, 1) := by decide +kernel
theorem dX1_fillProducts_137 : decode cX1_fillProducts 137 = .ok (.iload 4, 2) := by decide +kernel
theorem dX1_fillProducts_139 : decode cX1_fillProducts 139 = .ok (.iadd, 1) := by decide +kernel
theorem dX1_fillProducts_140 : decode cX1_fillProducts 140 = .ok (.iaload, 1) := by decide +kernel
theorem dX1_fillProducts_141 : decode cX1_fillProducts 141 = .ok (.iastore, 1) := by decide +kernel
theorem dX1_fillProducts_142 : decode cX1_fillProducts 142 = .ok (.iinc 6 1, 3) := by decide +kernel
theorem dX1_fillProducts_145 : decode cX1_fillProducts 145 = .ok (.goto (-41), 3) := by decide +kernel
theorem dX1_fillProducts_148 : decode cX1_fillProducts 148 = .ok (.iinc 3 1, 3) := by decide +kernel
theorem dX1_fillProducts_151 : decode cX1_fillProducts 151 = .ok (.goto (-75), 3) := by decide +kernel
