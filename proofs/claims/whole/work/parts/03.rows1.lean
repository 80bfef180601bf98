set_option maxRecDepth 20000 in
theorem ggX1_init_X1_spell : GoodIn wsX1_init wsX1_spell := goodIn_r _ [20, 4, 15, 13, 51, 52, 53, 54, 55, 56, 57, 58, 59, 60, 61] (by decide +kernel) (by decide +kernel)
set_option maxRecDepth 20000 in
theorem gX1_init_X1_spell : GoodIn wsX1_init (wsV RX1 44 RX1 yX1_spell wsX1_spell) := goodIn_app (goodIn_of _ (by decide +kernel)) ggX1_init_X1_spell
set_option maxRecDepth 20000 in
theorem ggX1_init_X1_describe : GoodIn wsX1_init wsX1_describe := goodIn_r _ [24, 4, 15, 8, 9, 10, 11, 25, 26, 19, 27, 28, 29, 30, 31, 13, 32, 33, 34, 51, 52, 53, 54, 55, 56, 57, 58, 59, 60, 61] (by decide +kernel) (by decide +kernel)
set_option maxRecDepth 20000 in
theorem gX1_init_X1_describe : GoodIn wsX1_init (wsV RX1 48 RX1 yX1_describe wsX1_describe) := goodIn_app (goodIn_of _ (by decide +kernel)) ggX1_init_X1_describe
set_option maxRecDepth 20000 in
theorem ggX1_init_X1_fillProducts : GoodIn wsX1_init wsX1_fillProducts := goodIn_r _ [38, 4, 5, 7, 14, 39, 40, 41, 19, 42, 15, 28, 29, 30, 31, 13, 32, 33, 34, 25, 26, 27, 43, 44, 45, 46, 8, 47, 48, 49, 50, 51, 52, 53, 54, 55, 56, 57, 58, 59, 60, 61] (by decide +kernel) (by decide +kernel)
set_option maxRecDepth 20000 in
theorem gX1_init_X1_fillProducts : GoodIn wsX1_init (wsV RX1 51 RX1 yX1_fillProducts wsX1_fillProducts) := goodIn_app (goodIn_of _ (by decide +kernel)) ggX1_init_X1_fillProducts
theorem dX1_init_0 : decode cX1_init 0 = .ok (.aload_n 0, 1) := by decide +kernel
theorem dX1_init_1 : decode cX1_init 1 = .ok (.invokespecial 1, 3) := by decide +kernel
theorem dX1_init_4 : decode cX1_init 4 = .ok (.aload_n 0, 1) := by decide +kernel
theorem dX1_init_5 : decode cX1_init 5 = .ok (.iload_n 1, 1) := by decide +kernel
theorem dX1_init_6 : decode cX1_init 6 = .ok (.putfield 7, 3) := by decide +kernel
theorem dX1_init_9 : decode cX1_init 9 = .ok (.iconst 1, 1) := by decide +kernel
theorem dX1_init_10 : decode cX1_init 10 = .ok (.istore_n 2, 1) := by decide +kernel
theorem dX1_init_11 : decode cX1_init 11 = .ok (.iconst 2, 1) := by decide +kernel
theorem dX1_init_12 : decode cX1_init 12 = .ok (.istore_n 3, 1) := by decide +kernel
theorem dX1_init_13 : decode cX1_init 13 = .ok (.iload_n 3, 1) := by decide +kernel
theorem dX1_init_14 : decode cX1_init 14 = .ok (.iload_n 1, 1) := by decide +kernel
theorem dX1_init_15 : decode cX1_init 15 = .ok (.if_icmp .gt 13, 3) := by decide +kernel
theorem dX1_init_18 : decode cX1_init 18 = .ok (.iload_n 2, 1) := by decide +kernel
theorem dX1_init_19 : decode cX1_init 19 = .ok (.iload_n 3, 1) := by decide +kernel
theorem dX1_init_20 : decode cX1_init 20 = .ok (.imul, 1) := by decide +kernel
theorem dX1_init_21 : decode cX1_init 21 = .ok (.istore_n 2, 1) := by decide +kernel
theorem dX1_init_22 : decode cX1_init 22 = .ok (.iinc 3 1, 3) := by decide +kernel
theorem dX1_init_25 : decode cX1_init 25 = .ok (.goto (-12), 3) := by decide +kernel
theorem dX1_init_28 : decode cX1_init 28 = .ok (.aload_n 0, 1) := by decide +kernel
theorem dX1_init_29 : decode cX1_init 29 = .ok (.iload_n 2, 1) := by decide +kernel
theorem dX1_init_30 : decode cX1_init 30 = .ok (.putfield 13, 3) := by decide +kernel
theorem dX1_init_33 : decode cX1_init 33 = .ok (.aload_n 0, 1) := by decide +kernel
theorem dX1_init_34 : decode cX1_init 34 = .ok (.iconst 1, 1) := by decide +kernel
theorem dX1_init_35 : decode cX1_init 35 = .ok (.iload_n 1, 1) := by decide +kernel
theorem dX1_init_36 : decode cX1_init 36 = .ok (.iconst 1, 1) := by decide +kernel
theorem dX1_init_37 : decode cX1_init 37 = .ok (.isub, 1) := by decide +kernel
theorem dX1_init_38 : decode cX1_init 38 = .ok (.ishl, 1) := by decide +kernel
theorem dX1_init_39 : decode cX1_init 39 = .ok (.putfield 16, 3) := by decide +kernel
theorem dX1_init_42 : decode cX1_init 42 = .ok (.aload_n 0, 1) := by decide +kernel
theorem dX1_init_43 : decode cX1_init 43 = .ok (.aload_n 0, 1) := by decide +kernel
theorem dX1_init_44 : decode cX1_init 44 = .ok (.getfield 13, 3) := by decide +kernel
theorem dX1_init_47 : decode cX1_init 47 = .ok (.newarray .int, 2) := by decide +kernel
theorem dX1_init_49 : decode cX1_init 49 = .ok (.putfield 19, 3) := by decide +kernel
theorem dX1_init_52 : decode cX1_init 52 = .ok (.aload_n 0, 1) := by decide +kernel
theorem dX1_init_53 : decode cX1_init 53 = .ok (.aload_n 0, 1) := by decide +kernel
theorem dX1_init_54 : decode cX1_init 54 = .ok (.getfield 13, 3) := by decide +kernel
theorem dX1_init_57 : decode cX1_init 57 = .ok (.newarray .int, 2) := by decide +kernel
theorem dX1_init_59 : decode cX1_init 59 = .ok (.putfield 23, 3) := by decide +kernel
theorem dX1_init_62 : decode cX1_init 62 = .ok (.aload_n 0, 1) := by decide +kernel
theorem dX1_init_63 : decode cX1_init 63 = .ok (.aload_n 0, 1) := by decide +kernel
theorem dX1_init_64 : decode cX1_init 64 = .ok (.getfield 13, 3) := by decide +kernel
theorem dX1_init_67 : decode cX1_init 67 = .ok (.newarray .int, 2) := by decide +kernel
theorem dX1_init_69 : decode cX1_init 69 = .ok (.putfield 26, 3) := by decide +kernel
theorem dX1_init_72 : decode cX1_init 72 = .ok (.aload_n 0, 1) := by decide +kernel
theorem dX1_init_73 : decode cX1_init 73 = .ok (.aload_n 0, 1) := by decide +kernel
theorem dX1_init_74 : decode cX1_init 74 = .ok (.getfield 13, 3) := by decide +kernel
theorem dX1_init_77 : decode cX1_init 77 = .ok (.newarray .int, 2) := by decide +kernel
theorem dX1_init_79 : decode cX1_init 79 = .ok (.putfield 29, 3) := by decide +kernel
theorem dX1_init_82 : decode cX1_init 82 = .ok (.aload_n 0, 1) := by decide +kernel
theorem dX1_init_83 : decode cX1_init 83 = .ok (.aload_n 0, 1) := by decide +kernel
theorem dX1_init_84 : decode cX1_init 84 = .ok (.getfield 16, 3) := by decide +kernel
theorem dX1_init_87 : decode cX1_init 87 = .ok (.newarray .int, 2) := by decide +kernel
theorem dX1_init_89 : decode cX1_init 89 = .ok (.putfield 32, 3) := by decide +kernel
theorem dX1_init_92 : decode cX1_init 92 = .ok (.aload_n 0, 1) := by decide +kernel
theorem dX1_init_93 : decode cX1_init 93 = .ok (.aload_n 0, 1) := by decide +kernel
theorem dX1_init_94 : decode cX1_init 94 = .ok (.getfield 13, 3) := by decide +kernel
theorem dX1_init_97 : decode cX1_init 97 = .ok (.iload_n 1, 1) := by decide +kernel
theorem dX1_init_98 : decode cX1_init 98 = .ok (.imul, 1) := by decide +kernel
theorem dX1_init_99 : decode cX1_init 99 = .ok (.newarray .int, 2) := by decide +kernel
theorem dX1_init_101 : decode cX1_init 101 = .ok (.putfield 35, 3) := by decide +kernel
theorem dX1_init_104 : decode cX1_init 104 = .ok (.aload_n 0, 1) := by decide +kernel
theorem dX1_init_105 : decode cX1_init 105 = .ok (.aload_n 0, 1) := by decide +kernel
theorem dX1_init_106 : decode cX1_init 106 = .ok (.getfield 13, 3) := by decide +kernel
theorem dX1_init_109 : decode cX1_init 109 = .ok (.aload_n 0, 1) := by decide +kernel
theorem dX1_init_110 : decode cX1_init 110 = .ok (.getfield 13, 3) := by decide +kernel
theorem dX1_init_113 : decode cX1_init 113 = .ok (.imul, 1) := by decide +kernel
theorem dX1_init_114 : decode cX1_init 114 = .ok (.newarray .int, 2) := by decide +kernel
theorem dX1_init_116 : decode cX1_init 116 = .ok (.putfield 38, 3) := by decide +kernel
theorem dX1_init_119 : decode cX1_init 119 = .ok (.aload_n 0, 1) := by decide +kernel
theorem dX1_init_120 : decode cX1_init 120 = .ok (.iload_n 1, 1) := by decide +kernel
theorem dX1_init_121 : decode cX1_init 121 = .ok (.newarray .int, 2) := by decide +kernel
theorem dX1_init_123 : decode cX1_init 123 = .ok (.putfield 41, 3) := by decide +kernel
theorem dX1_init_126 : decode cX1_init 126 = .ok (.aload_n 0, 1) := by decide +kernel
theorem dX1_init_127 : decode cX1_init 127 = .ok (.getfield 13, 3) := by decide +kernel
theorem dX1_init_130 : decode cX1_init 130 = .ok (.iconst 1, 1) := by decide +kernel
theorem dX1_init_131 : decode cX1_init 131 = .ok (.isub, 1) := by decide +kernel
theorem dX1_init_132 : decode cX1_init 132 = .ok (.istore_n 3, 1) := by decide +kernel
theorem dX1_init_133 : decode cX1_init 133 = .ok (.iload_n 3, 1) := by decide +kernel
theorem dX1_init_134 : decode cX1_init 134 = .ok (.ifCond .lt 31, 3) := by decide +kernel
theorem dX1_init_137 : decode cX1_init 137 = .ok (.aload_n 0, 1) := by decide +kernel
theorem dX1_init_138 : decode cX1_init 138 = .ok (.iload_n 3, 1) := by decide +kernel
theorem dX1_init_139 : decode cX1_init 139 = .ok (.invokevirtual 44, 3) := by decide +kernel
theorem dX1_init_142 : decode cX1_init 142 = .ok (.aload_n 0, 1) := by decide +kernel
theorem dX1_init_143 : decode cX1_init 143 = .ok (.iload_n 3, 1) := by decide +kernel
theorem dX1_init_144 : decode cX1_init 144 = .ok (.invokevirtual 48, 3) := by decide +kernel
theorem dX1_init_147 : decode cX1_init 147 = .ok (.aload_n 0, 1) := by decide +kernel
theorem dX1_init_148 : decode cX1_init 148 = .ok (.getfield 32, 3) := by decide +kernel
theorem dX1_init_151 : decode cX1_init 151 = .ok (.aload_n 0, 1) := by decide +kernel
theorem dX1_init_152 : decode cX1_init 152 = .ok (.getfield 19, 3) := by decide +kernel
theorem dX1_init_155 : decode cX1_init 155 = .ok (.iload_n 3, 1) := by decide +kernel
theorem dX1_init_156 : decode cX1_init 156 = .ok (.iaload, 1) := by decide +kernel
theorem dX1_init_157 : decode cX1_init 157 = .ok (.iload_n 3, 1) := by decide +kernel
theorem dX1_init_158 : decode cX1_init 158 = .ok (.iastore, 1) := by decide +kernel
theorem dX1_init_159 : decode cX1_init 159 = .ok (.iinc 3 (-1), 3) := by decide +kernel
theorem dX1_init_162 : decode cX1_init 162 = .ok (.goto (-29), 3) := by decide +kernel
theorem dX1_init_165 : decode cX1_init 165 = .ok (.aload_n 0, 1) := by decide +kernel
theorem dX1_init_166 : decode cX1_init 166 = .ok (.invokevirtual 51, 3) := by decide +kernel
theorem dX1_init_169 : decode cX1_init 169 = .ok (.return_, 1) := by decide +kernel
theorem dX1_letterAt_0 : decode cX1_letterAt 0 = .ok (.aload_n 0, 1) := by decide +kernel
theorem dX1_letterAt_1 : decode cX1_letterAt 1 = .ok (.getfield 35, 3) := by decide +kernel
theorem dX1_letterAt_4 : decode cX1_letterAt 4 = .ok (.iload_n 1, 1) := by decide +kernel
theorem dX1_letterAt_5 : decode cX1_letterAt 5 = .ok (.aload_n 0, 1) := by decide +kernel
theorem dX1_letterAt_6 : decode cX1_letterAt 6 = .ok (.getfield 7, 3) := by decide +kernel
theorem dX1_letterAt_9 : decode cX1_letterAt 9 = .ok (.imul, 1) := by decide +kernel
theorem dX1_letterAt_10 : decode cX1_letterAt 10 = .ok (.iload_n 2, 1) := by decide +kernel
theorem dX1_letterAt_11 : decode cX1_letterAt 11 = .ok (.iadd, 1) := by decide +kernel
theorem dX1_letterAt_12 : decode cX1_letterAt 12 = .ok (.iaload, 1) := by decide +kernel
theorem dX1_letterAt_13 : decode cX1_letterAt 13 = .ok (.ireturn, 1) := by decide +kernel
theorem dX1_times_0 : decode cX1_times 0 = .ok (.aload_n 0, 1) := by decide +kernel
theorem dX1_times_1 : decode cX1_times 1 = .ok (.getfield 38, 3) := by decide +kernel
theorem dX1_times_4 : decode cX1_times 4 = .ok (.iload_n 1, 1) := by decide +kernel
theorem dX1_times_5 : decode cX1_times 5 = .ok (.aload_n 0, 1) := by decide +kernel
theorem dX1_times_6 : decode cX1_times 6 = .ok (.getfield 13, 3) := by decide +kernel
theorem dX1_times_9 : decode cX1_times 9 = .ok (.imul, 1) := by decide +kernel
theorem dX1_times_10 : decode cX1_times 10 = .ok (.iload_n 2, 1) := by decide +kernel
theorem dX1_times_11 : decode cX1_times 11 = .ok (.iadd, 1) := by decide +kernel
theorem dX1_times_12 : decode cX1_times 12 = .ok (.iaload, 1) := by decide +kernel
theorem dX1_times_13 : decode cX1_times 13 = .ok (.ireturn, 1) := by decide +kernel
theorem dX1_parityOf_0 : decode cX1_parityOf 0 = .ok (.aload_n 0, 1) := by decide +kernel
theorem dX1_parityOf_1 : decode cX1_parityOf 1 = .ok (.getfield 26, 3) := by decide +kernel
theorem dX1_parityOf_4 : decode cX1_parityOf 4 = .ok (.iload_n 1, 1) := by decide +kernel
theorem dX1_parityOf_5 : decode cX1_parityOf 5 = .ok (.iaload, 1) := by decide +kernel
theorem dX1_parityOf_6 : decode cX1_parityOf 6 = .ok (.iconst 1, 1) := by decide +kernel
theorem dX1_parityOf_7 : decode cX1_parityOf 7 = .ok (.iand, 1) := by decide +kernel
theorem dX1_parityOf_8 : decode cX1_parityOf 8 = .ok (.ireturn, 1) := by decide +kernel
theorem dX1_isInWideClass_0 : decode cX1_isInWideClass 0 = .ok (.aload_n 0, 1) := by decide +kernel
theorem dX1_isInWideClass_1 : decode cX1_isInWideClass 1 = .ok (.getfield 19, 3) := by decide +kernel
theorem dX1_isInWideClass_4 : decode cX1_isInWideClass 4 = .ok (.iload_n 1, 1) := by decide +kernel
theorem dX1_isInWideClass_5 : decode cX1_isInWideClass 5 = .ok (.iaload, 1) := by decide +kernel
theorem dX1_isInWideClass_6 : decode cX1_isInWideClass 6 = .ok (.iload_n 2, 1) := by decide +kernel
theorem dX1_isInWideClass_7 : decode cX1_isInWideClass 7 = .ok (.iconst (-1), 1) := by decide +kernel
theorem dX1_isInWideClass_8 : decode cX1_isInWideClass 8 = .ok (.ixor, 1) := by decide +kernel
theorem dX1_isInWideClass_9 : decode cX1_isInWideClass 9 = .ok (.iand, 1) := by decide +kernel
theorem dX1_isInWideClass_10 : decode cX1_isInWideClass 10 = .ok (.ifCond .ne 7, 3) := by decide +kernel
theorem dX1_isInWideClass_13 : decode cX1_isInWideClass 13 = .ok (.iconst 1, 1) := by decide +kernel
theorem dX1_isInWideClass_14 : decode cX1_isInWideClass 14 = .ok (.goto 4, 3) := by decide +kernel
theorem dX1_isInWideClass_17 : decode cX1_isInWideClass 17 = .ok (.iconst 0, 1) := by decide +kernel
theorem dX1_isInWideClass_18 : decode cX1_isInWideClass 18 = .ok (.ireturn, 1) := by decide +kernel
theorem dX1_descentsAddedUp_0 : decode cX1_descentsAddedUp 0 = .ok (.iconst 0, 1) := by decide +kernel
theorem dX1_descentsAddedUp_1 : decode cX1_descentsAddedUp 1 = .ok (.istore_n 2, 1) := by decide +kernel
theorem dX1_descentsAddedUp_2 : decode cX1_descentsAddedUp 2 = .ok (.iconst 0, 1) := by decide +kernel
theorem dX1_descentsAddedUp_3 : decode cX1_descentsAddedUp 3 = .ok (.istore_n 3, 1) := by decide +kernel
theorem dX1_descentsAddedUp_4 : decode cX1_descentsAddedUp 4 = .ok (.iload_n 3, 1) := by decide +kernel
theorem dX1_descentsAddedUp_5 : decode cX1_descentsAddedUp 5 = .ok (.aload_n 0, 1) := by decide +kernel
theorem dX1_descentsAddedUp_6 : decode cX1_descentsAddedUp 6 = .ok (.getfield 7, 3) := by decide +kernel
theorem dX1_descentsAddedUp_9 : decode cX1_descentsAddedUp 9 = .ok (.iconst 1, 1) := by decide +kernel
theorem dX1_descentsAddedUp_10 : decode cX1_descentsAddedUp 10 = .ok (.isub, 1) := by decide +kernel
theorem dX1_descentsAddedUp_11 : decode cX1_descentsAddedUp 11 = .ok (.if_icmp .ge 29, 3) := by decide +kernel
theorem dX1_descentsAddedUp_14 : decode cX1_descentsAddedUp 14 = .ok (.aload_n 0, 1) := by decide +kernel
theorem dX1_descentsAddedUp_15 : decode cX1_descentsAddedUp 15 = .ok (.getfield 19, 3) := by decide +kernel
theorem dX1_descentsAddedUp_18 : decode cX1_descentsAddedUp 18 = .ok (.iload_n 1, 1) := by decide +kernel
theorem dX1_descentsAddedUp_19 : decode cX1_descentsAddedUp 19 = .ok (.iaload, 1) := by decide +kernel
theorem dX1_descentsAddedUp_20 : decode cX1_descentsAddedUp 20 = .ok (.iload_n 3, 1) := by decide +kernel
theorem dX1_descentsAddedUp_21 : decode cX1_descentsAddedUp 21 = .ok (.ishr, 1) := by decide +kernel
theorem dX1_descentsAddedUp_22 : decode cX1_descentsAddedUp 22 = .ok (.iconst 1, 1) := by decide +kernel
theorem dX1_descentsAddedUp_23 : decode cX1_descentsAddedUp 23 = .ok (.iand, 1) := by decide +kernel
theorem dX1_descentsAddedUp_24 : decode cX1_descentsAddedUp 24 = .ok (.iconst 1, 1) := by decide +kernel
theorem dX1_descentsAddedUp_25 : decode cX1_descentsAddedUp 25 = .ok (.if_icmp .ne 9, 3) := by decide +kernel
theorem dX1_descentsAddedUp_28 : decode cX1_descentsAddedUp 28 = .ok (.iload_n 2, 1) := by decide +kernel
theorem dX1_descentsAddedUp_29 : decode cX1_descentsAddedUp 29 = .ok (.iload_n 3, 1) := by decide +kernel
theorem dX1_descentsAddedUp_30 : decode cX1_descentsAddedUp 30 = .ok (.iconst 1, 1) := by decide +kernel
theorem dX1_descentsAddedUp_31 : decode cX1_descentsAddedUp 31 = .ok (.iadd, 1) := by decide +kernel
theorem dX1_descentsAddedUp_32 : decode cX1_descentsAddedUp 32 = .ok (.iadd, 1) := by decide +kernel
theorem dX1_descentsAddedUp_33 : decode cX1_descentsAddedUp 33 = .ok (.istore_n 2, 1) := by decide +kernel
theorem dX1_descentsAddedUp_34 : decode cX1_descentsAddedUp 34 = .ok (.iinc 3 1, 3) := by decide +kernel
theorem dX1_descentsAddedUp_37 : decode cX1_descentsAddedUp 37 = .ok (.goto (-33), 3) := by decide +kernel
theorem dX1_descentsAddedUp_40 : decode cX1_descentsAddedUp 40 = .ok (.iload_n 2, 1) := by decide +kernel
theorem dX1_descentsAddedUp_41 : decode cX1_descentsAddedUp 41 = .ok (.ireturn, 1) := by decide +kernel
set_option maxRecDepth 20000 in
theorem ggX1_ringsOf_X1_letterAt : GoodIn wsX1_ringsOf wsX1_letterAt := goodIn_r _ [6, 7, 1, 8, 9, 10, 11, 12, 13, 14, 15, 16, 17, 18] (by decide +kernel) (by decide +kernel)
set_option maxRecDepth 20000 in
theorem gX1_ringsOf_X1_letterAt : GoodIn wsX1_ringsOf (wsV RX1 54 RX1 yX1_letterAt wsX1_letterAt) := goodIn_app (goodIn_of _ (by decide +kernel)) ggX1_ringsOf_X1_letterAt
theorem dX1_ringsOf_0 : decode cX1_ringsOf 0 = .ok (.iconst 0, 1) := by decide +kernel
theorem dX1_ringsOf_1 : decode cX1_ringsOf 1 = .ok (.istore_n 2, 1) := by decide +kernel
theorem dX1_ringsOf_2 : decode cX1_ringsOf 2 = .ok (.iconst 0, 1) := by decide +kernel
theorem dX1_ringsOf_3 : decode cX1_ringsOf 3 = .ok (.istore_n 3, 1) := by decide +kernel
theorem dX1_ringsOf_4 : decode cX1_ringsOf 4 = .ok (.iconst 0, 1) := by decide +kernel
theorem dX1_ringsOf_5 : decode cX1_ringsOf 5 = .ok (.istore 4, 2) := by decide +kernel
theorem dX1_ringsOf_7 : decode cX1_ringsOf 7 = .ok (.iload 4, 2) := by decide +kernel
theorem dX1_ringsOf_9 : decode cX1_ringsOf 9 = .ok (.aload_n 0, 1) := by decide +kernel
theorem dX1_ringsOf_10 : decode cX1_ringsOf 10 = .ok (.getfield 7, 3) := by decide +kernel
theorem dX1_ringsOf_13 : decode cX1_ringsOf 13 = .ok (.if_icmp .ge 61, 3) := by decide +kernel
theorem dX1_ringsOf_16 : decode cX1_ringsOf 16 = .ok (.iload_n 2, 1) := by decide +kernel
theorem dX1_ringsOf_17 : decode cX1_ringsOf 17 = .ok (.iload 4, 2) := by decide +kernel
theorem dX1_ringsOf_19 : decode cX1_ringsOf 19 = .ok (.ishr, 1) := by decide +kernel
theorem dX1_ringsOf_20 : decode cX1_ringsOf 20 = .ok (.iconst 1, 1) := by decide +kernel
theorem dX1_ringsOf_21 : decode cX1_ringsOf 21 = .ok (.iand, 1) := by decide +kernel
theorem dX1_ringsOf_22 : decode cX1_ringsOf 22 = .ok (.ifCond .ne 6, 3) := by decide +kernel
theorem dX1_ringsOf_25 : decode cX1_ringsOf 25 = .ok (.iinc 3 1, 3) := by decide +kernel
theorem dX1_ringsOf_28 : decode cX1_ringsOf 28 = .ok (.iload 4, 2) := by decide +kernel
theorem dX1_ringsOf_30 : decode cX1_ringsOf 30 = .ok (.istore 5, 2) := by decide +kernel
theorem dX1_ringsOf_32 : decode cX1_ringsOf 32 = .ok (.iconst 0, 1) := by decide +kernel
theorem dX1_ringsOf_33 : decode cX1_ringsOf 33 = .ok (.istore 6, 2) := by decide +kernel
theorem dX1_ringsOf_35 : decode cX1_ringsOf 35 = .ok (.iload 6, 2) := by decide +kernel
theorem dX1_ringsOf_37 : decode cX1_ringsOf 37 = .ok (.aload_n 0, 1) := by decide +kernel
theorem dX1_ringsOf_38 : decode cX1_ringsOf 38 = .ok (.getfield 7, 3) := by decide +kernel
theorem dX1_ringsOf_41 : decode cX1_ringsOf 41 = .ok (.if_icmp .ge 27, 3) := by decide +kernel
theorem dX1_ringsOf_44 : decode cX1_ringsOf 44 = .ok (.iload_n 2, 1) := by decide +kernel
theorem dX1_ringsOf_45 : decode cX1_ringsOf 45 = .ok (.iconst 1, 1) := by decide +kernel
theorem dX1_ringsOf_46 : decode cX1_ringsOf 46 = .ok (.iload 5, 2) := by decide +kernel
theorem dX1_ringsOf_48 : decode cX1_ringsOf 48 = .ok (.ishl, 1) := by decide +kernel
theorem dX1_ringsOf_49 : decode cX1_ringsOf 49 = .ok (.ior, 1) := by decide +kernel
theorem dX1_ringsOf_50 : decode cX1_ringsOf 50 = .ok (.istore_n 2, 1) := by decide +kernel
theorem dX1_ringsOf_51 : decode cX1_ringsOf 51 = .ok (.aload_n 0, 1) := by decide +kernel
theorem dX1_ringsOf_52 : decode cX1_ringsOf 52 = .ok (.iload_n 1, 1) := by decide +kernel
theorem dX1_ringsOf_53 : decode cX1_ringsOf 53 = .ok (.iload 5, 2) := by decide +kernel
theorem dX1_ringsOf_55 : decode cX1_ringsOf 55 = .ok (.invokevirtual 54, 3) := by decide +kernel
theorem dX1_ringsOf_58 : decode cX1_ringsOf 58 = .ok (.iconst 1, 1) := by decide +kernel
theorem dX1_ringsOf_59 : decode cX1_ringsOf 59 = .ok (.isub, 1) := by decide +kernel
theorem dX1_ringsOf_60 : decode cX1_ringsOf 60 = .ok (.istore 5, 2) := by decide +kernel
theorem dX1_ringsOf_62 : decode cX1_ringsOf 62 = .ok (.iinc 6 1, 3) := by decide +kernel
theorem dX1_ringsOf_65 : decode cX1_ringsOf 65 = .ok (.goto (-30), 3) := by decide +kernel
theorem dX1_ringsOf_68 : decode cX1_ringsOf 68 = .ok (.iinc 4 1, 3) := by decide +kernel
theorem dX1_ringsOf_71 : decode cX1_ringsOf 71 = .ok (.goto (-64), 3) := by decide +kernel
theorem dX1_ringsOf_74 : decode cX1_ringsOf 74 = .ok (.iload_n 3, 1) := by decide +kernel
theorem dX1_ringsOf_75 : decode cX1_ringsOf 75 = .ok (.ireturn, 1) := by decide +kernel
set_option maxRecDepth 20000 in
theorem ggX1_turned_X1_letterAt : GoodIn wsX1_turned wsX1_letterAt := goodIn_r _ [8, 9, 2, 16, 17, 18, 19, 20, 21, 22, 23, 24, 25, 26] (by decide +kernel) (by decide +kernel)
set_option maxRecDepth 20000 in
theorem gX1_turned_X1_letterAt : GoodIn wsX1_turned (wsV RX1 54 RX1 yX1_letterAt wsX1_letterAt) := goodIn_app (goodIn_of _ (by decide +kernel)) ggX1_turned_X1_letterAt
set_option maxRecDepth 20000 in
theorem ggX1_turned_X1_numberOf : GoodIn wsX1_turned wsX1_numberOf := goodIn_r _ [12, 13, 14, 7, 15] (by decide +kernel) (by decide +kernel)
set_option maxRecDepth 20000 in
theorem gX1_turned_X1_numberOf : GoodIn wsX1_turned (va_wsS RX1 58 yX1_numberOf wsX1_numberOf) := goodIn_app (goodIn_of _ (by decide +kernel)) ggX1_turned_X1_numberOf
theorem dX1_turned_0 : decode cX1_turned 0 = .ok (.iload_n 2, 1) := by decide +kernel
theorem dX1_turned_1 : decode cX1_turned 1 = .ok (.ifCond .ne 10, 3) := by decide +kernel
theorem dX1_turned_4 : decode cX1_turned 4 = .ok (.aload_n 0, 1) := by decide +kernel
theorem dX1_turned_5 : decode cX1_turned 5 = .ok (.getfield 29, 3) := by decide +kernel
theorem dX1_turned_8 : decode cX1_turned 8 = .ok (.iload_n 1, 1) := by decide +kernel
theorem dX1_turned_9 : decode cX1_turned 9 = .ok (.iaload, 1) := by decide +kernel
theorem dX1_turned_10 : decode cX1_turned 10 = .ok (.ireturn, 1) := by decide +kernel
theorem dX1_turned_11 : decode cX1_turned 11 = .ok (.iload_n 2, 1) := by decide +kernel
theorem dX1_turned_12 : decode cX1_turned 12 = .ok (.iconst 3, 1) := by decide +kernel
theorem dX1_turned_13 : decode cX1_turned 13 = .ok (.if_icmp .ne 5, 3) := by decide +kernel
theorem dX1_turned_16 : decode cX1_turned 16 = .ok (.iload_n 1, 1) := by decide +kernel
theorem dX1_turned_17 : decode cX1_turned 17 = .ok (.ireturn, 1) := by decide +kernel
theorem dX1_turned_18 : decode cX1_turned 18 = .ok (.iconst 0, 1) := by decide +kernel
theorem dX1_turned_19 : decode cX1_turned 19 = .ok (.istore_n 3, 1) := by decide +kernel
theorem dX1_turned_20 : decode cX1_turned 20 = .ok (.iload_n 3, 1) := by decide +kernel
theorem dX1_turned_21 : decode cX1_turned 21 = .ok (.aload_n 0, 1) := by decide +kernel
theorem dX1_turned_22 : decode cX1_turned 22 = .ok (.getfield 7, 3) := by decide +kernel
theorem dX1_turned_25 : decode cX1_turned 25 = .ok (.if_icmp .ge 49, 3) := by decide +kernel
theorem dX1_turned_28 : decode cX1_turned 28 = .ok (.aload_n 0, 1) := by decide +kernel
theorem dX1_turned_29 : decode cX1_turned 29 = .ok (.getfield 41, 3) := by decide +kernel
theorem dX1_turned_32 : decode cX1_turned 32 = .ok (.iload_n 3, 1) := by decide +kernel
theorem dX1_turned_33 : decode cX1_turned 33 = .ok (.iload_n 2, 1) := by decide +kernel
theorem dX1_turned_34 : decode cX1_turned 34 = .ok (.iconst 1, 1) := by decide +kernel
theorem dX1_turned_35 : decode cX1_turned 35 = .ok (.if_icmp .ne 19, 3) := by decide +kernel
theorem dX1_turned_38 : decode cX1_turned 38 = .ok (.aload_n 0, 1) := by decide +kernel
theorem dX1_turned_39 : decode cX1_turned 39 = .ok (.iload_n 1, 1) := by decide +kernel
theorem dX1_turned_40 : decode cX1_turned 40 = .ok (.aload_n 0, 1) := by decide +kernel
theorem dX1_turned_41 : decode cX1_turned 41 = .ok (.getfield 7, 3) := by decide +kernel
theorem dX1_turned_44 : decode cX1_turned 44 = .ok (.iconst 1, 1) := by decide +kernel
theorem dX1_turned_45 : decode cX1_turned 45 = .ok (.isub, 1) := by decide +kernel
theorem dX1_turned_46 : decode cX1_turned 46 = .ok (.iload_n 3, 1) := by decide +kernel
theorem dX1_turned_47 : decode cX1_turned 47 = .ok (.isub, 1) := by decide +kernel
theorem dX1_turned_48 : decode cX1_turned 48 = .ok (.invokevirtual 54, 3) := by decide +kernel
theorem dX1_turned_51 : decode cX1_turned 51 = .ok (.goto 16, 3) := by decide +kernel
theorem dX1_turned_54 : decode cX1_turned 54 = .ok (.aload_n 0, 1) := by decide +kernel
theorem dX1_turned_55 : decode cX1_turned 55 = .ok (.getfield 7, 3) := by decide +kernel
theorem dX1_turned_58 : decode cX1_turned 58 = .ok (.iconst 1, 1) := by decide +kernel
theorem dX1_turned_59 : decode cX1_turned 59 = .ok (.iadd, 1) := by decide +kernel
theorem dX1_turned_60 : decode cX1_turned 60 = .ok (.aload_n 0, 1) := by decide +kernel
theorem dX1_turned_61 : decode cX1_turned 61 = .ok (.iload_n 1, 1) := by decide +kernel
theorem dX1_turned_62 : decode cX1_turned 62 = .ok (.iload_n 3, 1) := by decide +kernel
theorem dX1_turned_63 : decode cX1_turned 63 = .ok (.invokevirtual 54, 3) := by decide +kernel
theorem dX1_turned_66 : decode cX1_turned 66 = .ok (.isub, 1) := by decide +kernel
theorem dX1_turned_67 : decode cX1_turned 67 = .ok (.iastore, 1) := by decide +kernel
theorem dX1_turned_68 : decode cX1_turned 68 = .ok (.iinc 3 1, 3) := by decide +kernel
theorem dX1_turned_71 : decode cX1_turned 71 = .ok (.goto (-51), 3) := by decide +kernel
theorem dX1_turned_74 : decode cX1_turned 74 = .ok (.aload_n 0, 1) := by decide +kernel
theorem dX1_turned_75 : decode cX1_turned 75 = .ok (.getfield 41, 3) := by decide +kernel
theorem dX1_turned_78 : decode cX1_turned 78 = .ok (.aload_n 0, 1) := by decide +kernel
theorem dX1_turned_79 : decode cX1_turned 79 = .ok (.getfield 7, 3) := by decide +kernel
theorem dX1_turned_82 : decode cX1_turned 82 = .ok (.invokestatic 58, 3) := by decide +kernel
theorem dX1_turned_85 : decode cX1_turned 85 = .ok (.ireturn, 1) := by decide +kernel
set_option maxRecDepth 20000 in
theorem ggX1_keepsLower_X1_letterAt : GoodIn wsX1_keepsLower wsX1_letterAt := goodIn_r _ [6, 7, 1, 8, 9, 10, 11, 12, 13, 14, 15, 16, 17, 18] (by decide +kernel) (by decide +kernel)
set_option maxRecDepth 20000 in
theorem gX1_keepsLower_X1_letterAt : GoodIn wsX1_keepsLower (wsV RX1 54 RX1 yX1_letterAt wsX1_letterAt) := goodIn_app (goodIn_of _ (by decide +kernel)) ggX1_keepsLower_X1_letterAt
theorem dX1_keepsLower_0 : decode cX1_keepsLower 0 = .ok (.iconst 0, 1) := by decide +kernel
theorem dX1_keepsLower_1 : decode cX1_keepsLower 1 = .ok (.istore 4, 2) := by decide +kernel
theorem dX1_keepsLower_3 : decode cX1_keepsLower 3 = .ok (.iconst 0, 1) := by decide +kernel
theorem dX1_keepsLower_4 : decode cX1_keepsLower 4 = .ok (.istore 5, 2) := by decide +kernel
theorem dX1_keepsLower_6 : decode cX1_keepsLower 6 = .ok (.iload 5, 2) := by decide +kernel
theorem dX1_keepsLower_8 : decode cX1_keepsLower 8 = .ok (.aload_n 0, 1) := by decide +kernel
theorem dX1_keepsLower_9 : decode cX1_keepsLower 9 = .ok (.getfield 7, 3) := by decide +kernel
theorem dX1_keepsLower_12 : decode cX1_keepsLower 12 = .ok (.if_icmp .ge 44, 3) := by decide +kernel
theorem dX1_keepsLower_15 : decode cX1_keepsLower 15 = .ok (.aload_n 0, 1) := by decide +kernel
theorem dX1_keepsLower_16 : decode cX1_keepsLower 16 = .ok (.iload_n 1, 1) := by decide +kernel
theorem dX1_keepsLower_17 : decode cX1_keepsLower 17 = .ok (.iload 5, 2) := by decide +kernel
theorem dX1_keepsLower_19 : decode cX1_keepsLower 19 = .ok (.invokevirtual 54, 3) := by decide +kernel
theorem dX1_keepsLower_22 : decode cX1_keepsLower 22 = .ok (.istore 6, 2) := by decide +kernel
theorem dX1_keepsLower_24 : decode cX1_keepsLower 24 = .ok (.iload 6, 2) := by decide +kernel
theorem dX1_keepsLower_26 : decode cX1_keepsLower 26 = .ok (.aload_n 2, 1) := by decide +kernel
theorem dX1_keepsLower_27 : decode cX1_keepsLower 27 = .ok (.getfield 7, 3) := by decide +kernel
theorem dX1_keepsLower_30 : decode cX1_keepsLower 30 = .ok (.if_icmp .gt 20, 3) := by decide +kernel
theorem dX1_keepsLower_33 : decode cX1_keepsLower 33 = .ok (.iload 6, 2) := by decide +kernel
theorem dX1_keepsLower_35 : decode cX1_keepsLower 35 = .ok (.aload_n 2, 1) := by decide +kernel
theorem dX1_keepsLower_36 : decode cX1_keepsLower 36 = .ok (.iload_n 3, 1) := by decide +kernel
theorem dX1_keepsLower_37 : decode cX1_keepsLower 37 = .ok (.iload 4, 2) := by decide +kernel
theorem dX1_keepsLower_39 : decode cX1_keepsLower 39 = .ok (.invokevirtual 54, 3) := by decide +kernel
theorem dX1_keepsLower_42 : decode cX1_keepsLower 42 = .ok (.if_icmp .eq 5, 3) := by decide +kernel
theorem dX1_keepsLower_45 : decode cX1_keepsLower 45 = .ok (.iconst 0, 1) := by decide +kernel
theorem dX1_keepsLower_46 : decode cX1_keepsLower 46 = .ok (.ireturn, 1) := by decide +kernel
theorem dX1_keepsLower_47 : decode cX1_keepsLower 47 = .ok (.iinc 4 1, 3) := by decide +kernel
theorem dX1_keepsLower_50 : decode cX1_keepsLower 50 = .ok (.iinc 5 1, 3) := by decide +kernel
theorem dX1_keepsLower_53 : decode cX1_keepsLower 53 = .ok (.goto (-47), 3) := by decide +kernel
theorem dX1_keepsLower_56 : decode cX1_keepsLower 56 = .ok (.iconst 1, 1) := by decide +kernel
theorem dX1_keepsLower_57 : decode cX1_keepsLower 57 = .ok (.ireturn, 1) := by decide +kernel
set_option maxRecDepth 20000 in
theorem ggX1_keepsUpper_X1_letterAt : GoodIn wsX1_keepsUpper wsX1_letterAt := goodIn_r _ [6, 7, 1, 8, 9, 10, 11, 12, 13, 14, 15, 16, 17, 18] (by decide +kernel) (by decide +kernel)
set_option maxRecDepth 20000 in
theorem gX1_keepsUpper_X1_letterAt : GoodIn wsX1_keepsUpper (wsV RX1 54 RX1 yX1_letterAt wsX1_letterAt) := goodIn_app (goodIn_of _ (by decide +kernel)) ggX1_keepsUpper_X1_letterAt
theorem dX1_keepsUpper_0 : decode cX1_keepsUpper 0 = .ok (.aload_n 0, 1) := by decide +kernel
theorem dX1_keepsUpper_1 : decode cX1_keepsUpper 1 = .ok (.getfield 7, 3) := by decide +kernel
theorem dX1_keepsUpper_4 : decode cX1_keepsUpper 4 = .ok (.aload_n 2, 1) := by decide +kernel
theorem dX1_keepsUpper_5 : decode cX1_keepsUpper 5 = .ok (.getfield 7, 3) := by decide +kernel
theorem dX1_keepsUpper_8 : decode cX1_keepsUpper 8 = .ok (.isub, 1) := by decide +kernel
theorem dX1_keepsUpper_9 : decode cX1_keepsUpper 9 = .ok (.istore 4, 2) := by decide +kernel
theorem dX1_keepsUpper_11 : decode cX1_keepsUpper 11 = .ok (.iconst 0, 1) := by decide +kernel
theorem dX1_keepsUpper_12 : decode cX1_keepsUpper 12 = .ok (.istore 5, 2) := by decide +kernel
theorem dX1_keepsUpper_14 : decode cX1_keepsUpper 14 = .ok (.iconst 0, 1) := by decide +kernel
theorem dX1_keepsUpper_15 : decode cX1_keepsUpper 15 = .ok (.istore 6, 2) := by decide +kernel
theorem dX1_keepsUpper_17 : decode cX1_keepsUpper 17 = .ok (.iload 6, 2) := by decide +kernel
theorem dX1_keepsUpper_19 : decode cX1_keepsUpper 19 = .ok (.aload_n 0, 1) := by decide +kernel
theorem dX1_keepsUpper_20 : decode cX1_keepsUpper 20 = .ok (.getfield 7, 3) := by decide +kernel
theorem dX1_keepsUpper_23 : decode cX1_keepsUpper 23 = .ok (.if_icmp .ge 43, 3) := by decide +kernel
theorem dX1_keepsUpper_26 : decode cX1_keepsUpper 26 = .ok (.aload_n 0, 1) := by decide +kernel
theorem dX1_keepsUpper_27 : decode cX1_keepsUpper 27 = .ok (.iload_n 1, 1) := by decide +kernel
theorem dX1_keepsUpper_28 : decode cX1_keepsUpper 28 = .ok (.iload 6, 2) := by decide +kernel
theorem dX1_keepsUpper_30 : decode cX1_keepsUpper 30 = .ok (.invokevirtual 54, 3) := by decide +kernel
theorem dX1_keepsUpper_33 : decode cX1_keepsUpper 33 = .ok (.iload 4, 2) := by decide +kernel
theorem dX1_keepsUpper_35 : decode cX1_keepsUpper 35 = .ok (.isub, 1) := by decide +kernel
theorem dX1_keepsUpper_36 : decode cX1_keepsUpper 36 = .ok (.istore 7, 2) := by decide +kernel
theorem dX1_keepsUpper_38 : decode cX1_keepsUpper 38 = .ok (.iload 7, 2) := by decide +kernel
theorem dX1_keepsUpper_40 : decode cX1_keepsUpper 40 = .ok (.ifCond .le 20, 3) := by decide +kernel
theorem dX1_keepsUpper_43 : decode cX1_keepsUpper 43 = .ok (.iload 7, 2) := by decide +kernel
theorem dX1_keepsUpper_45 : decode cX1_keepsUpper 45 = .ok (.aload_n 2, 1) := by decide +kernel
theorem dX1_keepsUpper_46 : decode cX1_keepsUpper 46 = .ok (.iload_n 3, 1) := by decide +kernel
theorem dX1_keepsUpper_47 : decode cX1_keepsUpper 47 = .ok (.iload 5, 2) := by decide +kernel
theorem dX1_keepsUpper_49 : decode cX1_keepsUpper 49 = .ok (.invokevirtual 54, 3) := by decide +kernel
theorem dX1_keepsUpper_52 : decode cX1_keepsUpper 52 = .ok (.if_icmp .eq 5, 3) := by decide +kernel
theorem dX1_keepsUpper_55 : decode cX1_keepsUpper 55 = .ok (.iconst 0, 1) := by decide +kernel
theorem dX1_keepsUpper_56 : decode cX1_keepsUpper 56 = .ok (.ireturn, 1) := by decide +kernel
theorem dX1_keepsUpper_57 : decode cX1_keepsUpper 57 = .ok (.iinc 5 1, 3) := by decide +kernel
theorem dX1_keepsUpper_60 : decode cX1_keepsUpper 60 = .ok (.iinc 6 1, 3) := by decide +kernel
theorem dX1_keepsUpper_63 : decode cX1_keepsUpper 63 = .ok (.goto (-46), 3) := by decide +kernel
theorem dX1_keepsUpper_66 : decode cX1_keepsUpper 66 = .ok (.iconst 1, 1) := by decide +kernel
theorem dX1_keepsUpper_67 : decode cX1_keepsUpper 67 = .ok (.ireturn, 1) := by decide +kernel
set_option maxRecDepth 20000 in
theorem ggX1_numberOf_X1_smallerBehind : GoodIn wsX1_numberOf wsX1_smallerBehind := goodIn_r _ [4] (by decide +kernel) (by decide +kernel)
set_option maxRecDepth 20000 in
theorem gX1_numberOf_X1_smallerBehind : GoodIn wsX1_numberOf (va_wsS RX1 62 yX1_smallerBehind wsX1_smallerBehind) := goodIn_app (goodIn_of _ (by decide +kernel)) ggX1_numberOf_X1_smallerBehind
theorem dX1_numberOf_0 : decode cX1_numberOf 0 = .ok (.iconst 0, 1) := by decide +kernel
theorem dX1_numberOf_1 : decode cX1_numberOf 1 = .ok (.istore_n 2, 1) := by decide +kernel
theorem dX1_numberOf_2 : decode cX1_numberOf 2 = .ok (.iconst 0, 1) := by decide +kernel
theorem dX1_numberOf_3 : decode cX1_numberOf 3 = .ok (.istore_n 3, 1) := by decide +kernel
theorem dX1_numberOf_4 : decode cX1_numberOf 4 = .ok (.iload_n 3, 1) := by decide +kernel
theorem dX1_numberOf_5 : decode cX1_numberOf 5 = .ok (.iload_n 1, 1) := by decide +kernel
theorem dX1_numberOf_6 : decode cX1_numberOf 6 = .ok (.if_icmp .ge 22, 3) := by decide +kernel
theorem dX1_numberOf_9 : decode cX1_numberOf 9 = .ok (.iload_n 2, 1) := by decide +kernel
theorem dX1_numberOf_10 : decode cX1_numberOf 10 = .ok (.iload_n 1, 1) := by decide +kernel
theorem dX1_numberOf_11 : decode cX1_numberOf 11 = .ok (.iload_n 3, 1) := by decide +kernel
theorem dX1_numberOf_12 : decode cX1_numberOf 12 = .ok (.isub, 1) := by decide +kernel
theorem dX1_numberOf_13 : decode cX1_numberOf 13 = .ok (.imul, 1) := by decide +kernel
theorem dX1_numberOf_14 : decode cX1_numberOf 14 = .ok (.aload_n 0, 1) := by decide +kernel
theorem dX1_numberOf_15 : decode cX1_numberOf 15 = .ok (.iload_n 1, 1) := by decide +kernel
theorem dX1_numberOf_16 : decode cX1_numberOf 16 = .ok (.iload_n 3, 1) := by decide +kernel
theorem dX1_numberOf_17 : decode cX1_numberOf 17 = .ok (.invokestatic 62, 3) := by decide +kernel
theorem dX1_numberOf_20 : decode cX1_numberOf 20 = .ok (.iadd, 1) := by decide +kernel
theorem dX1_numberOf_21 : decode cX1_numberOf 21 = .ok (.istore_n 2, 1) := by decide +kernel
theorem dX1_numberOf_22 : decode cX1_numberOf 22 = .ok (.iinc 3 1, 3) := by decide +kernel
theorem dX1_numberOf_25 : decode cX1_numberOf 25 = .ok (.goto (-21), 3) := by decide +kernel
theorem dX1_numberOf_28 : decode cX1_numberOf 28 = .ok (.iload_n 2, 1) := by decide +kernel
theorem dX1_numberOf_29 : decode cX1_numberOf 29 = .ok (.ireturn, 1) := by decide +kernel
theorem dX1_smallerBehind_0 : decode cX1_smallerBehind 0 = .ok (.iconst 0, 1) := by decide +kernel
theorem dX1_smallerBehind_1 : decode cX1_smallerBehind 1 = .ok (.istore_n 3, 1) := by decide +kernel
theorem dX1_smallerBehind_2 : decode cX1_smallerBehind 2 = .ok (.iload_n 2, 1) := by decide +kernel
theorem dX1_smallerBehind_3 : decode cX1_smallerBehind 3 = .ok (.iconst 1, 1) := by decide +kernel
theorem dX1_smallerBehind_4 : decode cX1_smallerBehind 4 = .ok (.iadd, 1) := by decide +kernel
theorem dX1_smallerBehind_5 : decode cX1_smallerBehind 5 = .ok (.istore 4, 2) := by decide +kernel
theorem dX1_smallerBehind_7 : decode cX1_smallerBehind 7 = .ok (.iload 4, 2) := by decide +kernel
theorem dX1_smallerBehind_9 : decode cX1_smallerBehind 9 = .ok (.iload_n 1, 1) := by decide +kernel
theorem dX1_smallerBehind_10 : decode cX1_smallerBehind 10 = .ok (.if_icmp .ge 22, 3) := by decide +kernel
theorem dX1_smallerBehind_13 : decode cX1_smallerBehind 13 = .ok (.aload_n 0, 1) := by decide +kernel
theorem dX1_smallerBehind_14 : decode cX1_smallerBehind 14 = .ok (.iload 4, 2) := by decide +kernel
theorem dX1_smallerBehind_16 : decode cX1_smallerBehind 16 = .ok (.iaload, 1) := by decide +kernel
theorem dX1_smallerBehind_17 : decode cX1_smallerBehind 17 = .ok (.aload_n 0, 1) := by decide +kernel
theorem dX1_smallerBehind_18 : decode cX1_smallerBehind 18 = .ok (.iload_n 2, 1) := by decide +kernel
theorem dX1_smallerBehind_19 : decode cX1_smallerBehind 19 = .ok (.iaload, 1) := by decide +kernel
theorem dX1_smallerBehind_20 : decode cX1_smallerBehind 20 = .ok (.if_icmp .ge 6, 3) := by decide +kernel
theorem dX1_smallerBehind_23 : decode cX1_smallerBehind 23 = .ok (.iinc 3 1, 3) := by decide +kernel
theorem dX1_smallerBehind_26 : decode cX1_smallerBehind 26 = .ok (.iinc 4 1, 3) := by decide +kernel
theorem dX1_smallerBehind_29 : decode cX1_smallerBehind 29 = .ok (.goto (-22), 3) := by decide +kernel
theorem dX1_smallerBehind_32 : decode cX1_smallerBehind 32 = .ok (.iload_n 3, 1) := by decide +kernel
theorem dX1_smallerBehind_33 : decode cX1_smallerBehind 33 = .ok (.ireturn, 1) := by decide +kernel
theorem dX1_spell_0 : decode cX1_spell 0 = .ok (.iload_n 1, 1) := by decide +kernel
theorem dX1_spell_1 : decode cX1_spell 1 = .ok (.istore_n 2, 1) := by decide +kernel
theorem dX1_spell_2 : decode cX1_spell 2 = .ok (.aload_n 0, 1) := by decide +kernel
theorem dX1_spell_3 : decode cX1_spell 3 = .ok (.getfield 7, 3) := by decide +kernel
theorem dX1_spell_6 : decode cX1_spell 6 = .ok (.iconst 1, 1) := by decide +kernel
theorem dX1_spell_7 : decode cX1_spell 7 = .ok (.isub, 1) := by decide +kernel
theorem dX1_spell_8 : decode cX1_spell 8 = .ok (.istore_n 3, 1) := by decide +kernel
theorem dX1_spell_9 : decode cX1_spell 9 = .ok (.iload_n 3, 1) := by decide +kernel
theorem dX1_spell_10 : decode cX1_spell 10 = .ok (.ifCond .lt 81, 3) := by decide +kernel
theorem dX1_spell_13 : decode cX1_spell 13 = .ok (.iload_n 2, 1) := by decide +kernel
theorem dX1_spell_14 : decode cX1_spell 14 = .ok (.aload_n 0, 1) := by decide +kernel
theorem dX1_spell_15 : decode cX1_spell 15 = .ok (.getfield 7, 3) := by decide +kernel
theorem dX1_spell_18 : decode cX1_spell 18 = .ok (.iload_n 3, 1) := by decide +kernel
theorem dX1_spell_19 : decode cX1_spell 19 = .ok (.isub, 1) := by decide +kernel
theorem dX1_spell_20 : decode cX1_spell 20 = .ok (.irem, 1) := by decide +kernel
theorem dX1_spell_21 : decode cX1_spell 21 = .ok (.iconst 1, 1) := by decide +kernel
theorem dX1_spell_22 : decode cX1_spell 22 = .ok (.iadd, 1) := by decide +kernel
theorem dX1_spell_23 : decode cX1_spell 23 = .ok (.istore 4, 2) := by decide +kernel
theorem dX1_spell_25 : decode cX1_spell 25 = .ok (.iload_n 2, 1) := by decide +kernel
theorem dX1_spell_26 : decode cX1_spell 26 = .ok (.aload_n 0, 1) := by decide +kernel
theorem dX1_spell_27 : decode cX1_spell 27 = .ok (.getfield 7, 3) := by decide +kernel
theorem dX1_spell_30 : decode cX1_spell 30 = .ok (.iload_n 3, 1) := by decide +kernel
theorem dX1_spell_31 : decode cX1_spell 31 = .ok (.isub, 1) := by decide +kernel
theorem dX1_spell_32 : decode cX1_spell 32 = .ok (.idiv, 1) := by decide +kernel
theorem dX1_spell_33 : decode cX1_spell 33 = .ok (.istore_n 2, 1) := by decide +kernel
theorem dX1_spell_34 : decode cX1_spell 34 = .ok (.aload_n 0, 1) := by decide +kernel
theorem dX1_spell_35 : decode cX1_spell 35 = .ok (.getfield 41, 3) := by decide +kernel
theorem dX1_spell_38 : decode cX1_spell 38 = .ok (.iload_n 3, 1) := by decide +kernel
theorem dX1_spell_39 : decode cX1_spell 39 = .ok (.iload 4, 2) := by decide +kernel
theorem dX1_spell_41 : decode cX1_spell 41 = .ok (.iastore, 1) := by decide +kernel
theorem dX1_spell_42 : decode cX1_spell 42 = .ok (.iload_n 3, 1) := by decide +kernel
theorem dX1_spell_43 : decode cX1_spell 43 = .ok (.iconst 1, 1) := by decide +kernel
theorem dX1_spell_44 : decode cX1_spell 44 = .ok (.iadd, 1) := by decide +kernel
theorem dX1_spell_45 : decode cX1_spell 45 = .ok (.istore 5, 2) := by decide +kernel
theorem dX1_spell_47 : decode cX1_spell 47 = .ok (.iload 5, 2) := by decide +kernel
theorem dX1_spell_49 : decode cX1_spell 49 = .ok (.aload_n 0, 1) := by decide +kernel
theorem dX1_spell_50 : decode cX1_spell 50 = .ok (.getfield 7, 3) := by decide +kernel
theorem dX1_spell_53 : decode cX1_spell 53 = .ok (.if_icmp .ge 32, 3) := by decide +kernel
theorem dX1_spell_56 : decode cX1_spell 56 = .ok (.aload_n 0, 1) := by decide +kernel
theorem dX1_spell_57 : decode cX1_spell 57 = .ok (.getfield 41, 3) := by decide +kernel
theorem dX1_spell_60 : decode cX1_spell 60 = .ok (.iload 5, 2) := by decide +kernel
theorem dX1_spell_62 : decode cX1_spell 62 = .ok (.iaload, 1) := by decide +kernel
theorem dX1_spell_63 : decode cX1_spell 63 = .ok (.iload 4, 2) := by decide +kernel
theorem dX1_spell_65 : decode cX1_spell 65 = .ok (.if_icmp .lt 14, 3) := by decide +kernel
theorem dX1_spell_68 : decode cX1_spell 68 = .ok (.aload_n 0, 1) := by decide +kernel
theorem dX1_spell_69 : decode cX1_spell 69 = .ok (.getfield 41, 3) := by decide +kernel
theorem dX1_spell_72 : decode cX1_spell 72 = .ok (.iload 5, 2) := by decide +kernel
theorem dX1_spell_74 : decode cX1_spell 74 = .ok (.dup2, 1) := by decide +kernel
theorem dX1_spell_75 : decode cX1_spell 75 = .ok (.iaload, 1) := by decide +kernel
theorem dX1_spell_76 : decode cX1_spell 76 = .ok (.iconst 1, 1) := by decide +kernel
theorem dX1_spell_77 : decode cX1_spell 77 = .ok (.iadd, 1) := by decide +kernel
theorem dX1_spell_78 : decode cX1_spell 78 = .ok (.iastore, 1) := by decide +kernel
theorem dX1_spell_79 : decode cX1_spell 79 = .ok (.iinc 5 1, 3) := by decide +kernel
theorem dX1_spell_82 : decode cX1_spell 82 = .ok (.goto (-35), 3) := by decide +kernel
theorem dX1_spell_85 : decode cX1_spell 85 = .ok (.iinc 3 (-1), 3) := by decide +kernel
theorem dX1_spell_88 : decode cX1_spell 88 = .ok (.goto (-79), 3) := by decide +kernel
theorem dX1_spell_91 : decode cX1_spell 91 = .ok (.iconst 0, 1) := by decide +kernel
theorem dX1_spell_92 : decode cX1_spell 92 = .ok (.istore_n 3, 1) := by decide +kernel
theorem dX1_spell_93 : decode cX1_spell 93 = .ok (.iload_n 3, 1) := by decide +kernel
theorem dX1_spell_94 : decode cX1_spell 94 = .ok (.aload_n 0, 1) := by decide +kernel
theorem dX1_spell_95 : decode cX1_spell 95 = .ok (.getfield 7, 3) := by decide +kernel
theorem dX1_spell_98 : decode cX1_spell 98 = .ok (.if_icmp .ge 28, 3) := by decide +kernel
theorem dX1_spell_101 : decode cX1_spell 101 = .ok (.aload_n 0, 1) := by decide +kernel
theorem dX1_spell_102 : decode cX1_spell 102 = .ok (.getfield 35, 3) := by decide +kernel
theorem dX1_spell_105 : decode cX1_spell 105 = .ok (.iload_n 1, 1) := by decide +kernel
theorem dX1_spell_106 : decode cX1_spell 106 = .ok (.aload_n 0, 1) := by decide +kernel
theorem dX1_spell_107 : decode cX1_spell 107 = .ok (.getfield 7, 3) := by decide +kernel
theorem dX1_spell_110 : decode cX1_spell 110 = .ok (.imul, 1) := by decide +kernel
theorem dX1_spell_111 : decode cX1_spell 111 = .ok (.iload_n 3, 1) := by decide +kernel
theorem dX1_spell_112 : decode cX1_spell 112 = .ok (.iadd, 1) := by decide +kernel
theorem dX1_spell_113 : decode cX1_spell 113 = .ok (.aload_n 0, 1) := by decide +kernel
theorem dX1_spell_114 : decode cX1_spell 114 = .ok (.getfield 41, 3) := by decide +kernel
theorem dX1_spell_117 : decode cX1_spell 117 = .ok (.iload_n 3, 1) := by decide +kernel
theorem dX1_spell_118 : decode cX1_spell 118 = .ok (.iaload, 1) := by decide +kernel
theorem dX1_spell_119 : decode cX1_spell 119 = .ok (.iastore, 1) := by decide +kernel
theorem dX1_spell_120 : decode cX1_spell 120 = .ok (.iinc 3 1, 3) := by decide +kernel
theorem dX1_spell_123 : decode cX1_spell 123 = .ok (.goto (-30), 3) := by decide +kernel
theorem dX1_spell_126 : decode cX1_spell 126 = .ok (.return_, 1) := by decide +kernel
set_option maxRecDepth 20000 in
theorem ggX1_describe_X1_smallerBehind : GoodIn wsX1_describe wsX1_smallerBehind := goodIn_r _ [10] (by decide +kernel) (by decide +kernel)
set_option maxRecDepth 20000 in
theorem gX1_describe_X1_smallerBehind : GoodIn wsX1_describe (va_wsS RX1 62 yX1_smallerBehind wsX1_smallerBehind) := goodIn_app (goodIn_of _ (by decide +kernel)) ggX1_describe_X1_smallerBehind
set_option maxRecDepth 20000 in
theorem ggX1_describe_X1_letterAt : GoodIn wsX1_describe wsX1_letterAt := goodIn_r _ [14, 15, 1, 19, 20, 21, 22, 23, 24, 25, 26, 27, 28, 29] (by decide +kernel) (by decide +kernel)
set_option maxRecDepth 20000 in
theorem gX1_describe_X1_letterAt : GoodIn wsX1_describe (wsV RX1 54 RX1 yX1_letterAt wsX1_letterAt) := goodIn_app (goodIn_of _ (by decide +kernel)) ggX1_describe_X1_letterAt
set_option maxRecDepth 20000 in
theorem ggX1_describe_X1_numberOf : GoodIn wsX1_describe wsX1_numberOf := goodIn_r _ [18, 7, 8, 9, 10] (by decide +kernel) (by decide +kernel)
set_option maxRecDepth 20000 in
theorem gX1_describe_X1_numberOf : GoodIn wsX1_describe (va_wsS RX1 58 yX1_numberOf wsX1_numberOf) := goodIn_app (goodIn_of _ (by decide +kernel)) ggX1_describe_X1_numberOf
theorem dX1_describe_0 : decode cX1_describe 0 = .ok (.iconst 0, 1) := by decide +kernel
theorem dX1_describe_1 : decode cX1_describe 1 = .ok (.istore_n 2, 1) := by decide +kernel
theorem dX1_describe_2 : decode cX1_describe 2 = .ok (.iconst 0, 1) := by decide +kernel
theorem dX1_describe_3 : decode cX1_describe 3 = .ok (.istore_n 3, 1) := by decide +kernel
theorem dX1_describe_4 : decode cX1_describe 4 = .ok (.iconst 0, 1) := by decide +kernel
theorem dX1_describe_5 : decode cX1_describe 5 = .ok (.istore 4, 2) := by decide +kernel
theorem dX1_describe_7 : decode cX1_describe 7 = .ok (.iconst 0, 1) := by decide +kernel
theorem dX1_describe_8 : decode cX1_describe 8 = .ok (.istore 5, 2) := by decide +kernel
theorem dX1_describe_10 : decode cX1_describe 10 = .ok (.iload 5, 2) := by decide +kernel
theorem dX1_describe_12 : decode cX1_describe 12 = .ok (.aload_n 0, 1) := by decide +kernel
theorem dX1_describe_13 : decode cX1_describe 13 = .ok (.getfield 7, 3) := by decide +kernel
theorem dX1_describe_16 : decode cX1_describe 16 = .ok (.if_icmp .ge 95, 3) := by decide +kernel
theorem dX1_describe_19 : decode cX1_describe 19 = .ok (.iload 4, 2) := by decide +kernel
theorem dX1_describe_21 : decode cX1_describe 21 = .ok (.aload_n 0, 1) := by decide +kernel
theorem dX1_describe_22 : decode cX1_describe 22 = .ok (.getfield 41, 3) := by decide +kernel
theorem dX1_describe_25 : decode cX1_describe 25 = .ok (.aload_n 0, 1) := by decide +kernel
theorem dX1_describe_26 : decode cX1_describe 26 = .ok (.getfield 7, 3) := by decide +kernel
theorem dX1_describe_29 : decode cX1_describe 29 = .ok (.iload 5, 2) := by decide +kernel
theorem dX1_describe_31 : decode cX1_describe 31 = .ok (.invokestatic 62, 3) := by decide +kernel
theorem dX1_describe_34 : decode cX1_describe 34 = .ok (.iadd, 1) := by decide +kernel
theorem dX1_describe_35 : decode cX1_describe 35 = .ok (.istore 4, 2) := by decide +kernel
theorem dX1_describe_37 : decode cX1_describe 37 = .ok (.iload 5, 2) := by decide +kernel
theorem dX1_describe_39 : decode cX1_describe 39 = .ok (.aload_n 0, 1) := by decide +kernel
theorem dX1_describe_40 : decode cX1_describe 40 = .ok (.getfield 7, 3) := by decide +kernel
theorem dX1_describe_43 : decode cX1_describe 43 = .ok (.iconst 1, 1) := by decide +kernel
theorem dX1_describe_44 : decode cX1_describe 44 = .ok (.isub, 1) := by decide +kernel
theorem dX1_describe_45 : decode cX1_describe 45 = .ok (.if_icmp .ge 60, 3) := by decide +kernel
theorem dX1_describe_48 : decode cX1_describe 48 = .ok (.aload_n 0, 1) := by decide +kernel
theorem dX1_describe_49 : decode cX1_describe 49 = .ok (.getfield 41, 3) := by decide +kernel
theorem dX1_describe_52 : decode cX1_describe 52 = .ok (.iload 5, 2) := by decide +kernel
theorem dX1_describe_54 : decode cX1_describe 54 = .ok (.iaload, 1) := by decide +kernel
theorem dX1_describe_55 : decode cX1_describe 55 = .ok (.aload_n 0, 1) := by decide +kernel
theorem dX1_describe_56 : decode cX1_describe 56 = .ok (.getfield 41, 3) := by decide +kernel
theorem dX1_describe_59 : decode cX1_describe 59 = .ok (.iload 5, 2) := by decide +kernel
theorem dX1_describe_61 : decode cX1_describe 61 = .ok (.iconst 1, 1) := by decide +kernel
theorem dX1_describe_62 : decode cX1_describe 62 = .ok (.iadd, 1) := by decide +kernel
theorem dX1_describe_63 : decode cX1_describe 63 = .ok (.iaload, 1) := by decide +kernel
theorem dX1_describe_64 : decode cX1_describe 64 = .ok (.if_icmp .le 41, 3) := by decide +kernel
theorem dX1_describe_67 : decode cX1_describe 67 = .ok (.iload_n 2, 1) := by decide +kernel
theorem dX1_describe_68 : decode cX1_describe 68 = .ok (.iconst 1, 1) := by decide +kernel
theorem dX1_describe_69 : decode cX1_describe 69 = .ok (.iload 5, 2) := by decide +kernel
theorem dX1_describe_71 : decode cX1_describe 71 = .ok (.ishl, 1) := by decide +kernel
theorem dX1_describe_72 : decode cX1_describe 72 = .ok (.ior, 1) := by decide +kernel
theorem dX1_describe_73 : decode cX1_describe 73 = .ok (.istore_n 2, 1) := by decide +kernel
theorem dX1_describe_74 : decode cX1_describe 74 = .ok (.iload 5, 2) := by decide +kernel
theorem dX1_describe_76 : decode cX1_describe 76 = .ok (.ifCond .le 29, 3) := by decide +kernel
theorem dX1_describe_79 : decode cX1_describe 79 = .ok (.aload_n 0, 1) := by decide +kernel
theorem dX1_describe_80 : decode cX1_describe 80 = .ok (.getfield 41, 3) := by decide +kernel
theorem dX1_describe_83 : decode cX1_describe 83 = .ok (.iload 5, 2) := by decide +kernel
theorem dX1_describe_85 : decode cX1_describe 85 = .ok (.iaload, 1) := by decide +kernel
theorem dX1_describe_86 : decode cX1_describe 86 = .ok (.aload_n 0, 1) := by decide +kernel
theorem dX1_describe_87 : decode cX1_describe 87 = .ok (.getfield 41, 3) := by decide +kernel
theorem dX1_describe_90 : decode cX1_describe 90 = .ok (.iload 5, 2) := by decide +kernel
theorem dX1_describe_92 : decode cX1_describe 92 = .ok (.iconst 1, 1) := by decide +kernel
theorem dX1_describe_93 : decode cX1_describe 93 = .ok (.isub, 1) := by decide +kernel
theorem dX1_describe_94 : decode cX1_describe 94 = .ok (.iaload, 1) := by decide +kernel
theorem dX1_describe_95 : decode cX1_describe 95 = .ok (.if_icmp .le 10, 3) := by decide +kernel
theorem dX1_describe_98 : decode cX1_describe 98 = .ok (.iload_n 3, 1) := by decide +kernel
theorem dX1_describe_99 : decode cX1_describe 99 = .ok (.iconst 1, 1) := by decide +kernel
theorem dX1_describe_100 : decode cX1_describe 100 = .ok (.iload 5, 2) := by decide +kernel
theorem dX1_describe_102 : decode cX1_describe 102 = .ok (.ishl, 1) := by decide +kernel
theorem dX1_describe_103 : decode cX1_describe 103 = .ok (.ior, 1) := by decide +kernel
theorem dX1_describe_104 : decode cX1_describe 104 = .ok (.istore_n 3, 1) := by decide +kernel
theorem dX1_describe_105 : decode cX1_describe 105 = .ok (.iinc 5 1, 3) := by decide +kernel
theorem dX1_describe_108 : decode cX1_describe 108 = .ok (.goto (-98), 3) := by decide +kernel
theorem dX1_describe_111 : decode cX1_describe 111 = .ok (.aload_n 0, 1) := by decide +kernel
theorem dX1_describe_112 : decode cX1_describe 112 = .ok (.getfield 19, 3) := by decide +kernel
theorem dX1_describe_115 : decode cX1_describe 115 = .ok (.iload_n 1, 1) := by decide +kernel
theorem dX1_describe_116 : decode cX1_describe 116 = .ok (.iload_n 2, 1) := by decide +kernel
theorem dX1_describe_117 : decode cX1_describe 117 = .ok (.iastore, 1) := by decide +kernel
theorem dX1_describe_118 : decode cX1_describe 118 = .ok (.aload_n 0, 1) := by decide +kernel
theorem dX1_describe_119 : decode cX1_describe 119 = .ok (.getfield 23, 3) := by decide +kernel
theorem dX1_describe_122 : decode cX1_describe 122 = .ok (.iload_n 1, 1) := by decide +kernel
theorem dX1_describe_123 : decode cX1_describe 123 = .ok (.iload_n 3, 1) := by decide +kernel
theorem dX1_describe_124 : decode cX1_describe 124 = .ok (.iastore, 1) := by decide +kernel
theorem dX1_describe_125 : decode cX1_describe 125 = .ok (.aload_n 0, 1) := by decide +kernel
theorem dX1_describe_126 : decode cX1_describe 126 = .ok (.getfield 26, 3) := by decide +kernel
theorem dX1_describe_129 : decode cX1_describe 129 = .ok (.iload_n 1, 1) := by decide +kernel
theorem dX1_describe_130 : decode cX1_describe 130 = .ok (.iload 4, 2) := by decide +kernel
theorem dX1_describe_132 : decode cX1_describe 132 = .ok (.iastore, 1) := by decide +kernel
theorem dX1_describe_133 : decode cX1_describe 133 = .ok (.iconst 0, 1) := by decide +kernel
theorem dX1_describe_134 : decode cX1_describe 134 = .ok (.istore 5, 2) := by decide +kernel
theorem dX1_describe_136 : decode cX1_describe 136 = .ok (.iload 5, 2) := by decide +kernel
theorem dX1_describe_138 : decode cX1_describe 138 = .ok (.aload_n 0, 1) := by decide +kernel
theorem dX1_describe_139 : decode cX1_describe 139 = .ok (.getfield 7, 3) := by decide +kernel
theorem dX1_describe_142 : decode cX1_describe 142 = .ok (.if_icmp .ge 27, 3) := by decide +kernel
theorem dX1_describe_145 : decode cX1_describe 145 = .ok (.aload_n 0, 1) := by decide +kernel
theorem dX1_describe_146 : decode cX1_describe 146 = .ok (.getfield 41, 3) := by decide +kernel
theorem dX1_describe_149 : decode cX1_describe 149 = .ok (.aload_n 0, 1) := by decide +kernel
theorem dX1_describe_150 : decode cX1_describe 150 = .ok (.iload_n 1, 1) := by decide +kernel
theorem dX1_describe_151 : decode cX1_describe 151 = .ok (.iload 5, 2) := by decide +kernel
theorem dX1_describe_153 : decode cX1_describe 153 = .ok (.invokevirtual 54, 3) := by decide +kernel
theorem dX1_describe_156 : decode cX1_describe 156 = .ok (.iconst 1, 1) := by decide +kernel
theorem dX1_describe_157 : decode cX1_describe 157 = .ok (.isub, 1) := by decide +kernel
theorem dX1_describe_158 : decode cX1_describe 158 = .ok (.iload 5, 2) := by decide +kernel
theorem dX1_describe_160 : decode cX1_describe 160 = .ok (.iconst 1, 1) := by decide +kernel
theorem dX1_describe_161 : decode cX1_describe 161 = .ok (.iadd, 1) := by decide +kernel
theorem dX1_describe_162 : decode cX1_describe 162 = .ok (.iastore, 1) := by decide +kernel
theorem dX1_describe_163 : decode cX1_describe 163 = .ok (.iinc 5 1, 3) := by decide +kernel
theorem dX1_describe_166 : decode cX1_describe 166 = .ok (.goto (-30), 3) := by decide +kernel
theorem dX1_describe_169 : decode cX1_describe 169 = .ok (.aload_n 0, 1) := by decide +kernel
theorem dX1_describe_170 : decode cX1_describe 170 = .ok (.getfield 29, 3) := by decide +kernel
theorem dX1_describe_173 : decode cX1_describe 173 = .ok (.iload_n 1, 1) := by decide +kernel
theorem dX1_describe_174 : decode cX1_describe 174 = .ok (.aload_n 0, 1) := by decide +kernel
theorem dX1_describe_175 : decode cX1_describe 175 = .ok (.getfield 41, 3) := by decide +kernel
theorem dX1_describe_178 : decode cX1_describe 178 = .ok (.aload_n 0, 1) := by decide +kernel
theorem dX1_describe_179 : decode cX1_describe 179 = .ok (.getfield 7, 3) := by decide +kernel
theorem dX1_describe_182 : decode cX1_describe 182 = .ok (.invokestatic 58, 3) := by decide +kernel
theorem dX1_describe_185 : decode cX1_describe 185 = .ok (.iastore, 1) := by decide +kernel
theorem dX1_describe_186 : decode cX1_describe 186 = .ok (.return_, 1) := by decide +kernel
set_option maxRecDepth 20000 in
theorem ggX1_fillProducts_X1_withExchanged : GoodIn wsX1_fillProducts wsX1_withExchanged := goodIn_r _ [9, 1, 10, 11, 12, 13, 8, 14, 15, 16, 17, 18, 19, 20, 21, 31, 32, 33, 34, 35, 36, 37, 38, 39, 40, 41] (by decide +kernel) (by decide +kernel)
set_option maxRecDepth 20000 in
theorem gX1_fillProducts_X1_withExchanged : GoodIn wsX1_fillProducts (wsV RX1 66 RX1 yX1_withExchanged wsX1_withExchanged) := goodIn_app (goodIn_of _ (by decide +kernel)) ggX1_fillProducts_X1_withExchanged
set_option maxRecDepth 20000 in
theorem ggX1_fillProducts_X1_firstDescent : GoodIn wsX1_fillProducts wsX1_firstDescent := goodIn_r _ [25, 1, 26, 31, 32, 33, 34, 35, 36, 37, 38, 39, 40, 41] (by decide +kernel) (by decide +kernel)
set_option maxRecDepth 20000 in
theorem gX1_fillProducts_X1_firstDescent : GoodIn wsX1_fillProducts (wsV RX1 69 RX1 yX1_firstDescent wsX1_firstDescent) := goodIn_app (goodIn_of _ (by decide +kernel)) ggX1_fillProducts_X1_firstDescent
set_option maxRecDepth 20000 in
theorem ggX1_fillProducts_X1_times : GoodIn wsX1_fillProducts wsX1_times := goodIn_r _ [30, 4, 2, 31, 32, 33, 34, 35, 36, 37, 38, 39, 40, 41] (by decide +kernel) (by decide +kernel)
set_option maxRecDepth 20000 in
theorem gX1_fillProducts_X1_times : GoodIn wsX1_fillProducts (wsV RX1 73 RX1 yX1_times wsX1_times) := goodIn_app (goodIn_of _ (by decide +kernel)) ggX1_fillProducts_X1_times
theorem dX1_fillProducts_0 : decode cX1_fillProducts 0 = .ok (.aload_n 0, 1) := by decide +kernel
theorem dX1_fillProducts_1 : decode cX1_fillProducts 1 = .ok (.getfield 7, 3) := by decide +kernel
theorem dX1_fillProducts_4 : decode cX1_fillProducts 4 = .ok (.iconst 1, 1) := by decide +kernel
theorem dX1_fillProducts_5 : decode cX1_fillProducts 5 = .ok (.isub, 1) := by decide +kernel
theorem dX1_fillProducts_6 : decode cX1_fillProducts 6 = .ok (.istore_n 1, 1) := by decide +kernel
theorem dX1_fillProducts_7 : decode cX1_fillProducts 7 = .ok (.aload_n 0, 1) := by decide +kernel
theorem dX1_fillProducts_8 : decode cX1_fillProducts 8 = .ok (.getfield 13, 3) := by decide +kernel
theorem dX1_fillProducts_11 : decode cX1_fillProducts 11 = .ok (.iload_n 1, 1) := by decide +kernel
theorem dX1_fillProducts_12 : decode cX1_fillProducts 12 = .ok (.imul, 1) := by decide +kernel
theorem dX1_fillProducts_13 : decode cX1_fillProducts 13 = .ok (.newarray .int, 2) := by decide +kernel
theorem dX1_fillProducts_15 : decode cX1_fillProducts 15 = .ok (.astore_n 2, 1) := by decide +kernel
theorem dX1_fillProducts_16 : decode cX1_fillProducts 16 = .ok (.iconst 0, 1) := by decide +kernel
theorem dX1_fillProducts_17 : decode cX1_fillProducts 17 = .ok (.istore_n 3, 1) := by decide +kernel
theorem dX1_fillProducts_18 : decode cX1_fillProducts 18 = .ok (.iload_n 3, 1) := by decide +kernel
theorem dX1_fillProducts_19 : decode cX1_fillProducts 19 = .ok (.aload_n 0, 1) := by decide +kernel
theorem dX1_fillProducts_20 : decode cX1_fillProducts 20 = .ok (.getfield 13, 3) := by decide +kernel
theorem dX1_fillProducts_23 : decode cX1_fillProducts 23 = .ok (.if_icmp .ge 51, 3) := by decide +kernel
theorem dX1_fillProducts_26 : decode cX1_fillProducts 26 = .ok (.iconst 0, 1) := by decide +kernel
theorem dX1_fillProducts_27 : decode cX1_fillProducts 27 = .ok (.istore 4, 2) := by decide +kernel
theorem dX1_fillProducts_29 : decode cX1_fillProducts 29 = .ok (.iload 4, 2) := by decide +kernel
theorem dX1_fillProducts_31 : decode cX1_fillProducts 31 = .ok (.iload_n 1, 1) := by decide +kernel
theorem dX1_fillProducts_32 : decode cX1_fillProducts 32 = .ok (.if_icmp .ge 24, 3) := by decide +kernel
theorem dX1_fillProducts_35 : decode cX1_fillProducts 35 = .ok (.aload_n 2, 1) := by decide +kernel
theorem dX1_fillProducts_36 : decode cX1_fillProducts 36 = .ok (.iload_n 3, 1) := by decide +kernel
theorem dX1_fillProducts_37 : decode cX1_fillProducts 37 = .ok (.iload_n 1, 1) := by decide +kernel
theorem dX1_fillProducts_38 : decode cX1_fillProducts 38 = .ok (.imul, 1) := by decide +kernel
theorem dX1_fillProducts_39 : decode cX1_fillProducts 39 = .ok (.iload 4, 2) := by decide +kernel
theorem dX1_fillProducts_41 : decode cX1_fillProducts 41 = .ok (.iadd, 1) := by decide +kernel
theorem dX1_fillProducts_42 : decode cX1_fillProducts 42 = .ok (.aload_n 0, 1) := by decide +kernel
theorem dX1_fillProducts_43 : decode cX1_fillProducts 43 = .ok (.iload_n 3, 1) := by decide +kernel
theorem dX1_fillProducts_44 : decode cX1_fillProducts 44 = .ok (.iload 4, 2) := by decide +kernel
theorem dX1_fillProducts_46 : decode cX1_fillProducts 46 = .ok (.invokevirtual 66, 3) := by decide +kernel
theorem dX1_fillProducts_49 : decode cX1_fillProducts 49 = .ok (.iastore, 1) := by decide +kernel
theorem dX1_fillProducts_50 : decode cX1_fillProducts 50 = .ok (.iinc 4 1, 3) := by decide +kernel
theorem dX1_fillProducts_53 : decode cX1_fillProducts 53 = .ok (.goto (-24), 3) := by decide +kernel
theorem dX1_fillProducts_56 : decode cX1_fillProducts 56 = .ok (.aload_n 0, 1) := by decide +kernel
theorem dX1_fillProducts_57 : decode cX1_fillProducts 57 = .ok (.getfield 38, 3) := by decide +kernel
theorem dX1_fillProducts_60 : decode cX1_fillProducts 60 = .ok (.iload_n 3, 1) := by decide +kernel
theorem dX1_fillProducts_61 : decode cX1_fillProducts 61 = .ok (.aload_n 0, 1) := by decide +kernel
theorem dX1_fillProducts_62 : decode cX1_fillProducts 62 = .ok (.getfield 13, 3) := by decide +kernel
theorem dX1_fillProducts_65 : decode cX1_fillProducts 65 = .ok (.imul, 1) := by decide +kernel
theorem dX1_fillProducts_66 : decode cX1_fillProducts 66 = .ok (.iload_n 3, 1) := by decide +kernel
theorem dX1_fillProducts_67 : decode cX1_fillProducts 67 = .ok (.iastore, 1) := by decide +kernel
theorem dX1_fillProducts_68 : decode cX1_fillProducts 68 = .ok (.iinc 3 1, 3) := by decide +kernel
theorem dX1_fillProducts_71 : decode cX1_fillProducts 71 = .ok (.goto (-53), 3) := by decide +kernel
theorem dX1_fillProducts_74 : decode cX1_fillProducts 74 = .ok (.iconst 1, 1) := by decide +kernel
theorem dX1_fillProducts_75 : decode cX1_fillProducts 75 = .ok (.istore_n 3, 1) := by decide +kernel
theorem dX1_fillProducts_76 : decode cX1_fillProducts 76 = .ok (.iload_n 3, 1) := by decide +kernel
theorem dX1_fillProducts_77 : decode cX1_fillProducts 77 = .ok (.aload_n 0, 1) := by decide +kernel
theorem dX1_fillProducts_78 : decode cX1_fillProducts 78 = .ok (.getfield 13, 3) := by decide +kernel
theorem dX1_fillProducts_81 : decode cX1_fillProducts 81 = .ok (.if_icmp .ge 73, 3) := by decide +kernel
theorem dX1_fillProducts_84 : decode cX1_fillProducts 84 = .ok (.aload_n 0, 1) := by decide +kernel
theorem dX1_fillProducts_85 : decode cX1_fillProducts 85 = .ok (.iload_n 3, 1) := by decide +kernel
theorem dX1_fillProducts_86 : decode cX1_fillProducts 86 = .ok (.invokevirtual 69, 3) := by decide +kernel
theorem dX1_fillProducts_89 : decode cX1_fillProducts 89 = .ok (.istore 4, 2) := by decide +kernel
theorem dX1_fillProducts_91 : decode cX1_fillProducts 91 = .ok (.aload_n 2, 1) := by decide +kernel
theorem dX1_fillProducts_92 : decode cX1_fillProducts 92 = .ok (.iload_n 3, 1) := by decide +kernel
theorem dX1_fillProducts_93 : decode cX1_fillProducts 93 = .ok (.iload_n 1, 1) := by decide +kernel
theorem dX1_fillProducts_94 : decode cX1_fillProducts 94 = .ok (.imul, 1) := by decide +kernel
theorem dX1_fillProducts_95 : decode cX1_fillProducts 95 = .ok (.iload 4, 2) := by decide +kernel
theorem dX1_fillProducts_97 : decode cX1_fillProducts 97 = .ok (.iadd, 1) := by decide +kernel
theorem dX1_fillProducts_98 : decode cX1_fillProducts 98 = .ok (.iaload, 1) := by decide +kernel
theorem dX1_fillProducts_99 : decode cX1_fillProducts 99 = .ok (.istore 5, 2) := by decide +kernel
theorem dX1_fillProducts_101 : decode cX1_fillProducts 101 = .ok (.iconst 0, 1) := by decide +kernel
theorem dX1_fillProducts_102 : decode cX1_fillProducts 102 = .ok (.istore 6, 2) := by decide +kernel
theorem dX1_fillProducts_104 : decode cX1_fillProducts 104 = .ok (.iload 6, 2) := by decide +kernel
theorem dX1_fillProducts_106 : decode cX1_fillProducts 106 = .ok (.aload_n 0, 1) := by decide +kernel
theorem dX1_fillProducts_107 : decode cX1_fillProducts 107 = .ok (.getfield 13, 3) := by decide +kernel
theorem dX1_fillProducts_110 : decode cX1_fillProducts 110 = .ok (.if_icmp .ge 38, 3) := by decide +kernel
theorem dX1_fillProducts_113 : decode cX1_fillProducts 113 = .ok (.aload_n 0, 1) := by decide +kernel
theorem dX1_fillProducts_114 : decode cX1_fillProducts 114 = .ok (.getfield 38, 3) := by decide +kernel
theorem dX1_fillProducts_117 : decode cX1_fillProducts 117 = .ok (.iload 6, 2) := by decide +kernel
theorem dX1_fillProducts_119 : decode cX1_fillProducts 119 = .ok (.aload_n 0, 1) := by decide +kernel
theorem dX1_fillProducts_120 : decode cX1_fillProducts 120 = .ok (.getfield 13, 3) := by decide +kernel
theorem dX1_fillProducts_123 : decode cX1_fillProducts 123 = .ok (.imul, 1) := by decide +kernel
theorem dX1_fillProducts_124 : decode cX1_fillProducts 124 = .ok (.iload_n 3, 1) := by decide +kernel
theorem dX1_fillProducts_125 : decode cX1_fillProducts 125 = .ok (.iadd, 1) := by decide +kernel
theorem dX1_fillProducts_126 : decode cX1_fillProducts 126 = .ok (.aload_n 2, 1) := by decide +kernel
theorem dX1_fillProducts_127 : decode cX1_fillProducts 127 = .ok (.aload_n 0, 1) := by decide +kernel
theorem dX1_fillProducts_128 : decode cX1_fillProducts 128 = .ok (.iload 6, 2) := by decide +kernel
theorem dX1_fillProducts_130 : decode cX1_fillProducts 130 = .ok (.iload 5, 2) := by decide +kernel
theorem dX1_fillProducts_132 : decode cX1_fillProducts 132 = .ok (.invokevirtual 73, 3) := by decide +kernel
theorem dX1_fillProducts_135 : decode cX1_fillProducts 135 = .ok (.iload_n 1, 1) := by decide +kernel
theorem dX1_fillProducts_136 : decode cX1_fillProducts 136 = .ok (.imul, 1) := by decide +kernel
theorem dX1_fillProducts_137 : decode cX1_fillProducts 137 = .ok (.iload 4, 2) := by decide +kernel
theorem dX1_fillProducts_139 : decode cX1_fillProducts 139 = .ok (.iadd, 1) := by decide +kernel
theorem dX1_fillProducts_140 : decode cX1_fillProducts 140 = .ok (.iaload, 1) := by decide +kernel
theorem dX1_fillProducts_141 : decode cX1_fillProducts 141 = .ok (.iastore, 1) := by decide +kernel
theorem dX1_fillProducts_142 : decode cX1_fillProducts 142 = .ok (.iinc 6 1, 3) := by decide +kernel
theorem dX1_fillProducts_145 : decode cX1_fillProducts 145 = .ok (.goto (-41), 3) := by decide +kernel
theorem dX1_fillProducts_148 : decode cX1_fillProducts 148 = .ok (.iinc 3 1, 3) := by decide +kernel
theorem dX1_fillProducts_151 : decode cX1_fillProducts 151 = .ok (.goto (-75), 3) := by decide +kernel
theorem dX1_fillProducts_154 : decode cX1_fillProducts 154 = .ok (.return_, 1) := by decide +kernel
set_option maxRecDepth 20000 in
theorem ggX1_withExchanged_X1_letterAt : GoodIn wsX1_withExchanged wsX1_letterAt := goodIn_r _ [7, 8, 1, 15, 16, 17, 18, 19, 20, 21, 22, 23, 24, 25] (by decide +kernel) (by decide +kernel)
set_option maxRecDepth 20000 in
theorem gX1_withExchanged_X1_letterAt : GoodIn wsX1_withExchanged (wsV RX1 54 RX1 yX1_letterAt wsX1_letterAt) := goodIn_app (goodIn_of _ (by decide +kernel)) ggX1_withExchanged_X1_letterAt
set_option maxRecDepth 20000 in
theorem ggX1_withExchanged_X1_numberOf : GoodIn wsX1_withExchanged wsX1_numberOf := goodIn_r _ [11, 12, 13, 6, 14] (by decide +kernel) (by decide +kernel)
set_option maxRecDepth 20000 in
theorem gX1_withExchanged_X1_numberOf : GoodIn wsX1_withExchanged (va_wsS RX1 58 yX1_numberOf wsX1_numberOf) := goodIn_app (goodIn_of _ (by decide +kernel)) ggX1_withExchanged_X1_numberOf
theorem dX1_withExchanged_0 : decode cX1_withExchanged 0 = .ok (.iconst 0, 1) := by decide +kernel
theorem dX1_withExchanged_1 : decode cX1_withExchanged 1 = .ok (.istore_n 3, 1) := by decide +kernel
theorem dX1_withExchanged_2 : decode cX1_withExchanged 2 = .ok (.iload_n 3, 1) := by decide +kernel
theorem dX1_withExchanged_3 : decode cX1_withExchanged 3 = .ok (.aload_n 0, 1) := by decide +kernel
theorem dX1_withExchanged_4 : decode cX1_withExchanged 4 = .ok (.getfield 7, 3) := by decide +kernel
theorem dX1_withExchanged_7 : decode cX1_withExchanged 7 = .ok (.if_icmp .ge 21, 3) := by decide +kernel
theorem dX1_withExchanged_10 : decode cX1_withExchanged 10 = .ok (.aload_n 0, 1) := by decide +kernel
theorem dX1_withExchanged_11 : decode cX1_withExchanged 11 = .ok (.getfield 41, 3) := by decide +kernel
theorem dX1_withExchanged_14 : decode cX1_withExchanged 14 = .ok (.iload_n 3, 1) := by decide +kernel
theorem dX1_withExchanged_15 : decode cX1_withExchanged 15 = .ok (.aload_n 0, 1) := by decide +kernel
theorem dX1_withExchanged_16 : decode cX1_withExchanged 16 = .ok (.iload_n 1, 1) := by decide +kernel
theorem dX1_withExchanged_17 : decode cX1_withExchanged 17 = .ok (.iload_n 3, 1) := by decide +kernel
theorem dX1_withExchanged_18 : decode cX1_withExchanged 18 = .ok (.invokevirtual 54, 3) := by decide +kernel
theorem dX1_withExchanged_21 : decode cX1_withExchanged 21 = .ok (.iastore, 1) := by decide +kernel
theorem dX1_withExchanged_22 : decode cX1_withExchanged 22 = .ok (.iinc 3 1, 3) := by decide +kernel
theorem dX1_withExchanged_25 : decode cX1_withExchanged 25 = .ok (.goto (-23), 3) := by decide +kernel
theorem dX1_withExchanged_28 : decode cX1_withExchanged 28 = .ok (.aload_n 0, 1) := by decide +kernel
theorem dX1_withExchanged_29 : decode cX1_withExchanged 29 = .ok (.getfield 41, 3) := by decide +kernel
theorem dX1_withExchanged_32 : decode cX1_withExchanged 32 = .ok (.iload_n 2, 1) := by decide +kernel
theorem dX1_withExchanged_33 : decode cX1_withExchanged 33 = .ok (.aload_n 0, 1) := by decide +kernel
theorem dX1_withExchanged_34 : decode cX1_withExchanged 34 = .ok (.iload_n 1, 1) := by decide +kernel
theorem dX1_withExchanged_35 : decode cX1_withExchanged 35 = .ok (.iload_n 2, 1) := by decide +kernel
theorem dX1_withExchanged_36 : decode cX1_withExchanged 36 = .ok (.iconst 1, 1) := by decide +kernel
theorem dX1_withExchanged_37 : decode cX1_withExchanged 37 = .ok (.iadd, 1) := by decide +kernel
theorem dX1_withExchanged_38 : decode cX1_withExchanged 38 = .ok (.invokevirtual 54, 3) := by decide +kernel
theorem dX1_withExchanged_41 : decode cX1_withExchanged 41 = .ok (.iastore, 1) := by decide +kernel
theorem dX1_withExchanged_42 : decode cX1_withExchanged 42 = .ok (.aload_n 0, 1) := by decide +kernel
theorem dX1_withExchanged_43 : decode cX1_withExchanged 43 = .ok (.getfield 41, 3) := by decide +kernel
theorem dX1_withExchanged_46 : decode cX1_withExchanged 46 = .ok (.iload_n 2, 1) := by decide +kernel
theorem dX1_withExchanged_47 : decode cX1_withExchanged 47 = .ok (.iconst 1, 1) := by decide +kernel
theorem dX1_withExchanged_48 : decode cX1_withExchanged 48 = .ok (.iadd, 1) := by decide +kernel
theorem dX1_withExchanged_49 : decode cX1_withExchanged 49 = .ok (.aload_n 0, 1) := by decide +kernel
theorem dX1_withExchanged_50 : decode cX1_withExchanged 50 = .ok (.iload_n 1, 1) := by decide +kernel
theorem dX1_withExchanged_51 : decode cX1_withExchanged 51 = .ok (.iload_n 2, 1) := by decide +kernel
theorem dX1_withExchanged_52 : decode cX1_withExchanged 52 = .ok (.invokevirtual 54, 3) := by decide +kernel
theorem dX1_withExchanged_55 : decode cX1_withExchanged 55 = .ok (.iastore, 1) := by decide +kernel
theorem dX1_withExchanged_56 : decode cX1_withExchanged 56 = .ok (.aload_n 0, 1) := by decide +kernel
theorem dX1_withExchanged_57 : decode cX1_withExchanged 57 = .ok (.getfield 41, 3) := by decide +kernel
theorem dX1_withExchanged_60 : decode cX1_withExchanged 60 = .ok (.aload_n 0, 1) := by decide +kernel
theorem dX1_withExchanged_61 : decode cX1_withExchanged 61 = .ok (.getfield 7, 3) := by decide +kernel
theorem dX1_withExchanged_64 : decode cX1_withExchanged 64 = .ok (.invokestatic 58, 3) := by decide +kernel
theorem dX1_withExchanged_67 : decode cX1_withExchanged 67 = .ok (.ireturn, 1) := by decide +kernel
theorem dX1_firstDescent_0 : decode cX1_firstDescent 0 = .ok (.iconst 0, 1) := by decide +kernel
theorem dX1_firstDescent_1 : decode cX1_firstDescent 1 = .ok (.istore_n 2, 1) := by decide +kernel
theorem dX1_firstDescent_2 : decode cX1_firstDescent 2 = .ok (.iload_n 2, 1) := by decide +kernel
theorem dX1_firstDescent_3 : decode cX1_firstDescent 3 = .ok (.aload_n 0, 1) := by decide +kernel
theorem dX1_firstDescent_4 : decode cX1_firstDescent 4 = .ok (.getfield 7, 3) := by decide +kernel
theorem dX1_firstDescent_7 : decode cX1_firstDescent 7 = .ok (.iconst 1, 1) := by decide +kernel
theorem dX1_firstDescent_8 : decode cX1_firstDescent 8 = .ok (.isub, 1) := by decide +kernel
theorem dX1_firstDescent_9 : decode cX1_firstDescent 9 = .ok (.if_icmp .ge 25, 3) := by decide +kernel
theorem dX1_firstDescent_12 : decode cX1_firstDescent 12 = .ok (.aload_n 0, 1) := by decide +kernel
theorem dX1_firstDescent_13 : decode cX1_firstDescent 13 = .ok (.getfield 19, 3) := by decide +kernel
theorem dX1_firstDescent_16 : decode cX1_firstDescent 16 = .ok (.iload_n 1, 1) := by decide +kernel
theorem dX1_firstDescent_17 : decode cX1_firstDescent 17 = .ok (.iaload, 1) := by decide +kernel
theorem dX1_firstDescent_18 : decode cX1_firstDescent 18 = .ok (.iload_n 2, 1) := by decide +kernel
theorem dX1_firstDescent_19 : decode cX1_firstDescent 19 = .ok (.ishr, 1) := by decide +kernel
theorem dX1_firstDescent_20 : decode cX1_firstDescent 20 = .ok (.iconst 1, 1) := by decide +kernel
theorem dX1_firstDescent_21 : decode cX1_firstDescent 21 = .ok (.iand, 1) := by decide +kernel
theorem dX1_firstDescent_22 : decode cX1_firstDescent 22 = .ok (.iconst 1, 1) := by decide +kernel
theorem dX1_firstDescent_23 : decode cX1_firstDescent 23 = .ok (.if_icmp .ne 5, 3) := by decide +kernel
theorem dX1_firstDescent_26 : decode cX1_firstDescent 26 = .ok (.iload_n 2, 1) := by decide +kernel
theorem dX1_firstDescent_27 : decode cX1_firstDescent 27 = .ok (.ireturn, 1) := by decide +kernel
theorem dX1_firstDescent_28 : decode cX1_firstDescent 28 = .ok (.iinc 2 1, 3) := by decide +kernel
theorem dX1_firstDescent_31 : decode cX1_firstDescent 31 = .ok (.goto (-29), 3) := by decide +kernel
theorem dX1_firstDescent_34 : decode cX1_firstDescent 34 = .ok (.iconst 0, 1) := by decide +kernel
theorem dX1_firstDescent_35 : decode cX1_firstDescent 35 = .ok (.ireturn, 1) := by decide +kernel
theorem dX2_init_0 : decode cX2_init 0 = .ok (.aload_n 0, 1) := by decide +kernel
theorem dX2_init_1 : decode cX2_init 1 = .ok (.invokespecial 1, 3) := by decide +kernel
theorem dX2_init_4 : decode cX2_init 4 = .ok (.aload_n 0, 1) := by decide +kernel
theorem dX2_init_5 : decode cX2_init 5 = .ok (.iconst 0, 1) := by decide +kernel
theorem dX2_init_6 : decode cX2_init 6 = .ok (.putfield 7, 3) := by decide +kernel
theorem dX2_init_9 : decode cX2_init 9 = .ok (.aload_n 0, 1) := by decide +kernel
theorem dX2_init_10 : decode cX2_init 10 = .ok (.bipush 60, 2) := by decide +kernel
theorem dX2_init_12 : decode cX2_init 12 = .ok (.newarray .char, 2) := by decide +kernel
theorem dX2_init_14 : decode cX2_init 14 = .ok (.putfield 13, 3) := by decide +kernel
theorem dX2_init_17 : decode cX2_init 17 = .ok (.return_, 1) := by decide +kernel
theorem dX2_isFull_0 : decode cX2_isFull 0 = .ok (.aload_n 0, 1) := by decide +kernel
theorem dX2_isFull_1 : decode cX2_isFull 1 = .ok (.getfield 7, 3) := by decide +kernel
theorem dX2_isFull_4 : decode cX2_isFull 4 = .ok (.bipush 60, 2) := by decide +kernel
theorem dX2_isFull_6 : decode cX2_isFull 6 = .ok (.if_icmp .lt 7, 3) := by decide +kernel
theorem dX2_isFull_9 : decode cX2_isFull 9 = .ok (.iconst 1, 1) := by decide +kernel
theorem dX2_isFull_10 : decode cX2_isFull 10 = .ok (.goto 4, 3) := by decide +kernel
theorem dX2_isFull_13 : decode cX2_isFull 13 = .ok (.iconst 0, 1) := by decide +kernel
theorem dX2_isFull_14 : decode cX2_isFull 14 = .ok (.ireturn, 1) := by decide +kernel
theorem dX2_append_0 : decode cX2_append 0 = .ok (.aload_n 0, 1) := by decide +kernel
theorem dX2_append_1 : decode cX2_append 1 = .ok (.getfield 13, 3) := by decide +kernel
theorem dX2_append_4 : decode cX2_append 4 = .ok (.aload_n 0, 1) := by decide +kernel
theorem dX2_append_5 : decode cX2_append 5 = .ok (.getfield 7, 3) := by decide +kernel
theorem dX2_append_8 : decode cX2_append 8 = .ok (.iload_n 1, 1) := by decide +kernel
theorem dX2_append_9 : decode cX2_append 9 = .ok (.castore, 1) := by decide +kernel
theorem dX2_append_10 : decode cX2_append 10 = .ok (.aload_n 0, 1) := by decide +kernel
theorem dX2_append_11 : decode cX2_append 11 = .ok (.dup, 1) := by decide +kernel
theorem dX2_append_12 : decode cX2_append 12 = .ok (.getfield 7, 3) := by decide +kernel
theorem dX2_append_15 : decode cX2_append 15 = .ok (.iconst 1, 1) := by decide +kernel
theorem dX2_append_16 : decode cX2_append 16 = .ok (.iadd, 1) := by decide +kernel
theorem dX2_append_17 : decode cX2_append 17 = .ok (.putfield 7, 3) := by decide +kernel
theorem dX2_append_20 : decode cX2_append 20 = .ok (.return_, 1) := by decide +kernel
theorem dX2_signAt_0 : decode cX2_signAt 0 = .ok (.aload_n 0, 1) := by decide +kernel
theorem dX2_signAt_1 : decode cX2_signAt 1 = .ok (.getfield 13, 3) := by decide +kernel
theorem dX2_signAt_4 : decode cX2_signAt 4 = .ok (.iload_n 1, 1) := by decide +kernel
theorem dX2_signAt_5 : decode cX2_signAt 5 = .ok (.caload, 1) := by decide +kernel
theorem dX2_signAt_6 : decode cX2_signAt 6 = .ok (.ireturn, 1) := by decide +kernel
theorem dX3_init_0 : decode cX3_init 0 = .ok (.aload_n 0, 1) := by decide +kernel
theorem dX3_init_1 : decode cX3_init 1 = .ok (.invokespecial 3, 3) := by decide +kernel
theorem dX3_init_4 : decode cX3_init 4 = .ok (.aload_n 0, 1) := by decide +kernel
theorem dX3_init_5 : decode cX3_init 5 = .ok (.iconst 1, 1) := by decide +kernel
theorem dX3_init_6 : decode cX3_init 6 = .ok (.putfield 9, 3) := by decide +kernel
theorem dX3_init_9 : decode cX3_init 9 = .ok (.aload_n 0, 1) := by decide +kernel
theorem dX3_init_10 : decode cX3_init 10 = .ok (.iconst 1, 1) := by decide +kernel
theorem dX3_init_11 : decode cX3_init 11 = .ok (.putfield 15, 3) := by decide +kernel
theorem dX3_init_14 : decode cX3_init 14 = .ok (.aload_n 0, 1) := by decide +kernel
theorem dX3_init_15 : decode cX3_init 15 = .ok (.iconst 1, 1) := by decide +kernel
theorem dX3_init_16 : decode cX3_init 16 = .ok (.putfield 18, 3) := by decide +kernel
theorem dX3_init_19 : decode cX3_init 19 = .ok (.aload_n 0, 1) := by decide +kernel
theorem dX3_init_20 : decode cX3_init 20 = .ok (.iconst (-1), 1) := by decide +kernel
theorem dX3_init_21 : decode cX3_init 21 = .ok (.putfield 21, 3) := by decide +kernel
theorem dX3_init_24 : decode cX3_init 24 = .ok (.aload_n 0, 1) := by decide +kernel
theorem dX3_init_25 : decode cX3_init 25 = .ok (.iconst 5, 1) := by decide +kernel
theorem dX3_init_26 : decode cX3_init 26 = .ok (.newarray .int, 2) := by decide +kernel
theorem dX3_init_28 : decode cX3_init 28 = .ok (.putfield 24, 3) := by decide +kernel
theorem dX3_init_31 : decode cX3_init 31 = .ok (.aload_n 0, 1) := by decide +kernel
theorem dX3_init_32 : decode cX3_init 32 = .ok (.iconst 5, 1) := by decide +kernel
theorem dX3_init_33 : decode cX3_init 33 = .ok (.newarray .int, 2) := by decide +kernel
theorem dX3_init_35 : decode cX3_init 35 = .ok (.putfield 28, 3) := by decide +kernel
theorem dX3_init_38 : decode cX3_init 38 = .ok (.return_, 1) := by decide +kernel
set_option maxRecDepth 20000 in
theorem ggX3_tell_X3_cut : GoodIn wsX3_tell wsX3_cut := goodIn_r _ [10] (by decide +kernel) (by decide +kernel)
set_option maxRecDepth 20000 in
theorem gX3_tell_X3_cut : GoodIn wsX3_tell (va_wsS RX3 31 yX3_cut wsX3_cut) := goodIn_app (goodIn_of _ (by decide +kernel)) ggX3_tell_X3_cut
set_option maxRecDepth 20000 in
theorem ggX3_tell_X3_ways : GoodIn wsX3_tell wsX3_ways := goodIn_r _ [13, 5, 6, 3, 4, 2, 14, 15, 16, 17, 1, 11, 12, 9, 18, 19, 20, 21, 22, 23, 24, 25, 26] (by decide +kernel) (by decide +kernel)
set_option maxRecDepth 20000 in
theorem gX3_tell_X3_ways : GoodIn wsX3_tell (va_wsS RX3 35 yX3_ways wsX3_ways) := goodIn_app (goodIn_of _ (by decide +kernel)) ggX3_tell_X3_ways
theorem dX3_tell_0 : decode cX3_tell 0 = .ok (.aload_n 0, 1) := by decide +kernel
theorem dX3_tell_1 : decode cX3_tell 1 = .ok (.iload_n 1, 1) := by decide +kernel
theorem dX3_tell_2 : decode cX3_tell 2 = .ok (.putfield 9, 3) := by decide +kernel
theorem dX3_tell_5 : decode cX3_tell 5 = .ok (.aload_n 0, 1) := by decide +kernel
theorem dX3_tell_6 : decode cX3_tell 6 = .ok (.iload_n 1, 1) := by decide +kernel
theorem dX3_tell_7 : decode cX3_tell 7 = .ok (.iload_n 2, 1) := by decide +kernel
theorem dX3_tell_8 : decode cX3_tell 8 = .ok (.aload_n 0, 1) := by decide +kernel
theorem dX3_tell_9 : decode cX3_tell 9 = .ok (.getfield 28, 3) := by decide +kernel
theorem dX3_tell_12 : decode cX3_tell 12 = .ok (.invokestatic 31, 3) := by decide +kernel
theorem dX3_tell_15 : decode cX3_tell 15 = .ok (.putfield 15, 3) := by decide +kernel
theorem dX3_tell_18 : decode cX3_tell 18 = .ok (.aload_n 0, 1) := by decide +kernel
theorem dX3_tell_19 : decode cX3_tell 19 = .ok (.iload_n 1, 1) := by decide +kernel
theorem dX3_tell_20 : decode cX3_tell 20 = .ok (.iload_n 3, 1) := by decide +kernel
theorem dX3_tell_21 : decode cX3_tell 21 = .ok (.aload_n 0, 1) := by decide +kernel
theorem dX3_tell_22 : decode cX3_tell 22 = .ok (.getfield 24, 3) := by decide +kernel
theorem dX3_tell_25 : decode cX3_tell 25 = .ok (.invokestatic 31, 3) := by decide +kernel
theorem dX3_tell_28 : decode cX3_tell 28 = .ok (.putfield 18, 3) := by decide +kernel
theorem dX3_tell_31 : decode cX3_tell 31 = .ok (.aload_n 0, 1) := by decide +kernel
theorem dX3_tell_32 : decode cX3_tell 32 = .ok (.iload 4, 2) := by decide +kernel
theorem dX3_tell_34 : decode cX3_tell 34 = .ok (.putfield 21, 3) := by decide +kernel
theorem dX3_tell_37 : decode cX3_tell 37 = .ok (.aload_n 0, 1) := by decide +kernel
theorem dX3_tell_38 : decode cX3_tell 38 = .ok (.iconst 0, 1) := by decide +kernel
theorem dX3_tell_39 : decode cX3_tell 39 = .ok (.iconst 0, 1) := by decide +kernel
theorem dX3_tell_40 : decode cX3_tell 40 = .ok (.iconst 0, 1) := by decide +kernel
theorem dX3_tell_41 : decode cX3_tell 41 = .ok (.iconst 0, 1) := by decide +kernel
theorem dX3_tell_42 : decode cX3_tell 42 = .ok (.invokestatic 35, 3) := by decide +kernel
theorem dX3_tell_45 : decode cX3_tell 45 = .ok (.ireturn, 1) := by decide +kernel
theorem dX3_cut_0 : decode cX3_cut 0 = .ok (.iconst 0, 1) := by decide +kernel
theorem dX3_cut_1 : decode cX3_cut 1 = .ok (.istore_n 3, 1) := by decide +kernel
theorem dX3_cut_2 : decode cX3_cut 2 = .ok (.iconst 0, 1) := by decide +kernel
theorem dX3_cut_3 : decode cX3_cut 3 = .ok (.istore 4, 2) := by decide +kernel
theorem dX3_cut_5 : decode cX3_cut 5 = .ok (.iconst 0, 1) := by decide +kernel
theorem dX3_cut_6 : decode cX3_cut 6 = .ok (.istore 5, 2) := by decide +kernel
theorem dX3_cut_8 : decode cX3_cut 8 = .ok (.iload 5, 2) := by decide +kernel
theorem dX3_cut_10 : decode cX3_cut 10 = .ok (.iload_n 0, 1) := by decide +kernel
theorem dX3_cut_11 : decode cX3_cut 11 = .ok (.if_icmp .ge 41, 3) := by decide +kernel
theorem dX3_cut_14 : decode cX3_cut 14 = .ok (.iinc 4 1, 3) := by decide +kernel
theorem dX3_cut_17 : decode cX3_cut 17 = .ok (.iload 5, 2) := by decide +kernel
theorem dX3_cut_19 : decode cX3_cut 19 = .ok (.iload_n 0, 1) := by decide +kernel
theorem dX3_cut_20 : decode cX3_cut 20 = .ok (.iconst 1, 1) := by decide +kernel
theorem dX3_cut_21 : decode cX3_cut 21 = .ok (.isub, 1) := by decide +kernel
theorem dX3_cut_22 : decode cX3_cut 22 = .ok (.if_icmp .eq 13, 3) := by decide +kernel
theorem dX3_cut_25 : decode cX3_cut 25 = .ok (.iload_n 1, 1) := by decide +kernel
theorem dX3_cut_26 : decode cX3_cut 26 = .ok (.iload 5, 2) := by decide +kernel
theorem dX3_cut_28 : decode cX3_cut 28 = .ok (.ishr, 1) := by decide +kernel
theorem dX3_cut_29 : decode cX3_cut 29 = .ok (.iconst 1, 1) := by decide +kernel
theorem dX3_cut_30 : decode cX3_cut 30 = .ok (.iand, 1) := by decide +kernel
theorem dX3_cut_31 : decode cX3_cut 31 = .ok (.iconst 1, 1) := by decide +kernel
theorem dX3_cut_32 : decode cX3_cut 32 = .ok (.if_icmp .ne 14, 3) := by decide +kernel
theorem dX3_cut_35 : decode cX3_cut 35 = .ok (.aload_n 2, 1) := by decide +kernel
theorem dX3_cut_36 : decode cX3_cut 36 = .ok (.iload_n 3, 1) := by decide +kernel
theorem dX3_cut_37 : decode cX3_cut 37 = .ok (.iload 4, 2) := by decide +kernel
theorem dX3_cut_39 : decode cX3_cut 39 = .ok (.iastore, 1) := by decide +kernel
theorem dX3_cut_40 : decode cX3_cut 40 = .ok (.iinc 3 1, 3) := by decide +kernel
theorem dX3_cut_43 : decode cX3_cut 43 = .ok (.iconst 0, 1) := by decide +kernel
theorem dX3_cut_44 : decode cX3_cut 44 = .ok (.istore 4, 2) := by decide +kernel
theorem dX3_cut_46 : decode cX3_cut 46 = .ok (.iinc 5 1, 3) := by decide +kernel
theorem dX3_cut_49 : decode cX3_cut 49 = .ok (.goto (-41), 3) := by decide +kernel
theorem dX3_cut_52 : decode cX3_cut 52 = .ok (.iload_n 3, 1) := by decide +kernel
theorem dX3_cut_53 : decode cX3_cut 53 = .ok (.ireturn, 1) := by decide +kernel
set_option maxRecDepth 20000 in
theorem ggX3_ways_X3_ways : GoodIn wsX3_ways wsX3_ways := goodIn_r _ [0, 1, 2, 3, 4, 5, 6, 7, 8, 9, 10, 11, 12, 13, 14, 15, 16, 17, 18, 19, 20, 21, 22] (by decide +kernel) (by decide +kernel)
set_option maxRecDepth 20000 in
theorem gX3_ways_X3_ways : GoodIn wsX3_ways (va_wsS RX3 35 yX3_ways wsX3_ways) := goodIn_app (goodIn_of _ (by decide +kernel)) ggX3_ways_X3_ways
set_option maxRecDepth 20000 in
theorem ggX3_ways_X3_withCut : GoodIn wsX3_ways wsX3_withCut := goodIn_r _ [16] (by decide +kernel) (by decide +kernel)
set_option maxRecDepth 20000 in
theorem gX3_ways_X3_withCut : GoodIn wsX3_ways (va_wsS RX3 45 yX3_withCut wsX3_withCut) := goodIn_app (goodIn_of _ (by decide +kernel)) ggX3_ways_X3_withCut
theorem dX3_ways_0 : decode cX3_ways 0 = .ok (.iload_n 1, 1) := by decide +kernel
theorem dX3_ways_1 : decode cX3_ways 1 = .ok (.ifCond .lt 11, 3) := by decide +kernel
theorem dX3_ways_4 : decode cX3_ways 4 = .ok (.iload_n 1, 1) := by decide +kernel
theorem dX3_ways_5 : decode cX3_ways 5 = .ok (.aload_n 0, 1) := by decide +kernel
theorem dX3_ways_6 : decode cX3_ways 6 = .ok (.getfield 18, 3) := by decide +kernel
theorem dX3_ways_9 : decode cX3_ways 9 = .ok (.if_icmp .lt 26, 3) := by decide +kernel
theorem dX3_ways_12 : decode cX3_ways 12 = .ok (.aload_n 0, 1) := by decide +kernel
theorem dX3_ways_13 : decode cX3_ways 13 = .ok (.getfield 21, 3) := by decide +kernel
theorem dX3_ways_16 : decode cX3_ways 16 = .ok (.iconst (-1), 1) := by decide +kernel
theorem dX3_ways_17 : decode cX3_ways 17 = .ok (.if_icmp .eq 12, 3) := by decide +kernel
theorem dX3_ways_20 : decode cX3_ways 20 = .ok (.aload_n 0, 1) := by decide +kernel
theorem dX3_ways_21 : decode cX3_ways 21 = .ok (.getfield 21, 3) := by decide +kernel
theorem dX3_ways_24 : decode cX3_ways 24 = .ok (.iload 4, 2) := by decide +kernel
theorem dX3_ways_26 : decode cX3_ways 26 = .ok (.if_icmp .ne 7, 3) := by decide +kernel
theorem dX3_ways_29 : decode cX3_ways 29 = .ok (.iconst 1, 1) := by decide +kernel
theorem dX3_ways_30 : decode cX3_ways 30 = .ok (.goto 4, 3) := by decide +kernel
theorem dX3_ways_33 : decode cX3_ways 33 = .ok (.iconst 0, 1) := by decide +kernel
theorem dX3_ways_34 : decode cX3_ways 34 = .ok (.ireturn, 1) := by decide +kernel
theorem dX3_ways_35 : decode cX3_ways 35 = .ok (.iload_n 2, 1) := by decide +kernel
theorem dX3_ways_36 : decode cX3_ways 36 = .ok (.ifCond .lt 11, 3) := by decide +kernel
theorem dX3_ways_39 : decode cX3_ways 39 = .ok (.iload_n 2, 1) := by decide +kernel
theorem dX3_ways_40 : decode cX3_ways 40 = .ok (.aload_n 0, 1) := by decide +kernel
theorem dX3_ways_41 : decode cX3_ways 41 = .ok (.getfield 15, 3) := by decide +kernel
theorem dX3_ways_44 : decode cX3_ways 44 = .ok (.if_icmp .lt 28, 3) := by decide +kernel
theorem dX3_ways_47 : decode cX3_ways 47 = .ok (.aload_n 0, 1) := by decide +kernel
theorem dX3_ways_48 : decode cX3_ways 48 = .ok (.getfield 24, 3) := by decide +kernel
theorem dX3_ways_51 : decode cX3_ways 51 = .ok (.iload_n 1, 1) := by decide +kernel
theorem dX3_ways_52 : decode cX3_ways 52 = .ok (.iaload, 1) := by decide +kernel
theorem dX3_ways_53 : decode cX3_ways 53 = .ok (.ifCond .ne 17, 3) := by decide +kernel
theorem dX3_ways_56 : decode cX3_ways 56 = .ok (.aload_n 0, 1) := by decide +kernel
theorem dX3_ways_57 : decode cX3_ways 57 = .ok (.iload_n 1, 1) := by decide +kernel
theorem dX3_ways_58 : decode cX3_ways 58 = .ok (.iconst 1, 1) := by decide +kernel
theorem dX3_ways_59 : decode cX3_ways 59 = .ok (.iadd, 1) := by decide +kernel
theorem dX3_ways_60 : decode cX3_ways 60 = .ok (.iconst 0, 1) := by decide +kernel
theorem dX3_ways_61 : decode cX3_ways 61 = .ok (.iload_n 3, 1) := by decide +kernel
theorem dX3_ways_62 : decode cX3_ways 62 = .ok (.iload 4, 2) := by decide +kernel
theorem dX3_ways_64 : decode cX3_ways 64 = .ok (.invokestatic 35, 3) := by decide +kernel
theorem dX3_ways_67 : decode cX3_ways 67 = .ok (.goto 4, 3) := by decide +kernel
theorem dX3_ways_70 : decode cX3_ways 70 = .ok (.iconst 0, 1) := by decide +kernel
theorem dX3_ways_71 : decode cX3_ways 71 = .ok (.ireturn, 1) := by decide +kernel
theorem dX3_ways_72 : decode cX3_ways 72 = .ok (.iconst 0, 1) := by decide +kernel
theorem dX3_ways_73 : decode cX3_ways 73 = .ok (.istore 5, 2) := by decide +kernel
theorem dX3_ways_75 : decode cX3_ways 75 = .ok (.aload_n 0, 1) := by decide +kernel
theorem dX3_ways_76 : decode cX3_ways 76 = .ok (.getfield 24, 3) := by decide +kernel
theorem dX3_ways_79 : decode cX3_ways 79 = .ok (.iload_n 1, 1) := by decide +kernel
theorem dX3_ways_80 : decode cX3_ways 80 = .ok (.iaload, 1) := by decide +kernel
theorem dX3_ways_81 : decode cX3_ways 81 = .ok (.aload_n 0, 1) := by decide +kernel
theorem dX3_ways_82 : decode cX3_ways 82 = .ok (.getfield 28, 3) := by decide +kernel
theorem dX3_ways_85 : decode cX3_ways 85 = .ok (.iload_n 2, 1) := by decide +kernel
theorem dX3_ways_86 : decode cX3_ways 86 = .ok (.iaload, 1) := by decide +kernel
theorem dX3_ways_87 : decode cX3_ways 87 = .ok (.invokestatic 39, 3) := by decide +kernel
theorem dX3_ways_90 : decode cX3_ways 90 = .ok (.istore 6, 2) := by decide +kernel
theorem dX3_ways_92 : decode cX3_ways 92 = .ok (.iconst 0, 1) := by decide +kernel
theorem dX3_ways_93 : decode cX3_ways 93 = .ok (.istore 7, 2) := by decide +kernel
theorem dX3_ways_95 : decode cX3_ways 95 = .ok (.iload 7, 2) := by decide +kernel
theorem dX3_ways_97 : decode cX3_ways 97 = .ok (.iload 6, 2) := by decide +kernel
theorem dX3_ways_99 : decode cX3_ways 99 = .ok (.if_icmp .gt 83, 3) := by decide +kernel
theorem dX3_ways_102 : decode cX3_ways 102 = .ok (.aload_n 0, 1) := by decide +kernel
theorem dX3_ways_103 : decode cX3_ways 103 = .ok (.getfield 24, 3) := by decide +kernel
theorem dX3_ways_106 : decode cX3_ways 106 = .ok (.iload_n 1, 1) := by decide +kernel
theorem dX3_ways_107 : decode cX3_ways 107 = .ok (.dup2, 1) := by decide +kernel
theorem dX3_ways_108 : decode cX3_ways 108 = .ok (.iaload, 1) := by decide +kernel
theorem dX3_ways_109 : decode cX3_ways 109 = .ok (.iload 7, 2) := by decide +kernel
theorem dX3_ways_111 : decode cX3_ways 111 = .ok (.isub, 1) := by decide +kernel
theorem dX3_ways_112 : decode cX3_ways 112 = .ok (.iastore, 1) := by decide +kernel
theorem dX3_ways_113 : decode cX3_ways 113 = .ok (.aload_n 0, 1) := by decide +kernel
theorem dX3_ways_114 : decode cX3_ways 114 = .ok (.getfield 28, 3) := by decide +kernel
theorem dX3_ways_117 : decode cX3_ways 117 = .ok (.iload_n 2, 1) := by decide +kernel
theorem dX3_ways_118 : decode cX3_ways 118 = .ok (.dup2, 1) := by decide +kernel
theorem dX3_ways_119 : decode cX3_ways 119 = .ok (.iaload, 1) := by decide +kernel
theorem dX3_ways_120 : decode cX3_ways 120 = .ok (.iload 7, 2) := by decide +kernel
theorem dX3_ways_122 : decode cX3_ways 122 = .ok (.isub, 1) := by decide +kernel
theorem dX3_ways_123 : decode cX3_ways 123 = .ok (.iastore, 1) := by decide +kernel
theorem dX3_ways_124 : decode cX3_ways 124 = .ok (.iload 5, 2) := by decide +kernel
theorem dX3_ways_126 : decode cX3_ways 126 = .ok (.aload_n 0, 1) := by decide +kernel
theorem dX3_ways_127 : decode cX3_ways 127 = .ok (.iload_n 1, 1) := by decide +kernel
theorem dX3_ways_128 : decode cX3_ways 128 = .ok (.iload_n 2, 1) := by decide +kernel
theorem dX3_ways_129 : decode cX3_ways 129 = .ok (.iconst 1, 1) := by decide +kernel
theorem dX3_ways_130 : decode cX3_ways 130 = .ok (.iadd, 1) := by decide +kernel
theorem dX3_ways_131 : decode cX3_ways 131 = .ok (.iload_n 3, 1) := by decide +kernel
theorem dX3_ways_132 : decode cX3_ways 132 = .ok (.iload 7, 2) := by decide +kernel
theorem dX3_ways_134 : decode cX3_ways 134 = .ok (.iadd, 1) := by decide +kernel
theorem dX3_ways_135 : decode cX3_ways 135 = .ok (.aload_n 0, 1) := by decide +kernel
theorem dX3_ways_136 : decode cX3_ways 136 = .ok (.getfield 9, 3) := by decide +kernel
theorem dX3_ways_139 : decode cX3_ways 139 = .ok (.iload_n 3, 1) := by decide +kernel
theorem dX3_ways_140 : decode cX3_ways 140 = .ok (.iload 7, 2) := by decide +kernel
theorem dX3_ways_142 : decode cX3_ways 142 = .ok (.iadd, 1) := by decide +kernel
theorem dX3_ways_143 : decode cX3_ways 143 = .ok (.iload 4, 2) := by decide +kernel
theorem dX3_ways_145 : decode cX3_ways 145 = .ok (.invokestatic 45, 3) := by decide +kernel
theorem dX3_ways_148 : decode cX3_ways 148 = .ok (.invokestatic 35, 3) := by decide +kernel
theorem dX3_ways_151 : decode cX3_ways 151 = .ok (.iadd, 1) := by decide +kernel
theorem dX3_ways_152 : decode cX3_ways 152 = .ok (.istore 5, 2) := by decide +kernel
theorem dX3_ways_154 : decode cX3_ways 154 = .ok (.aload_n 0, 1) := by decide +kernel
theorem dX3_ways_155 : decode cX3_ways 155 = .ok (.getfield 24, 3) := by decide +kernel
theorem dX3_ways_158 : decode cX3_ways 158 = .ok (.iload_n 1, 1) := by decide +kernel
theorem dX3_ways_159 : decode cX3_ways 159 = .ok (.dup2, 1) := by decide +kernel
theorem dX3_ways_160 : decode cX3_ways 160 = .ok (.iaload, 1) := by decide +kernel
theorem dX3_ways_161 : decode cX3_ways 161 = .ok (.iload 7, 2) := by decide +kernel
theorem dX3_ways_163 : decode cX3_ways 163 = .ok (.iadd, 1) := by decide +kernel
theorem dX3_ways_164 : decode cX3_ways 164 = .ok (.iastore, 1) := by decide +kernel
theorem dX3_ways_165 : decode cX3_ways 165 = .ok (.aload_n 0, 1) := by decide +kernel
theorem dX3_ways_166 : decode cX3_ways 166 = .ok (.getfield 28, 3) := by decide +kernel
theorem dX3_ways_169 : decode cX3_ways 169 = .ok (.iload_n 2, 1) := by decide +kernel
theorem dX3_ways_170 : decode cX3_ways 170 = .ok (.dup2, 1) := by decide +kernel
theorem dX3_ways_171 : decode cX3_ways 171 = .ok (.iaload, 1) := by decide +kernel
theorem dX3_ways_172 : decode cX3_ways 172 = .ok (.iload 7, 2) := by decide +kernel
theorem dX3_ways_174 : decode cX3_ways 174 = .ok (.iadd, 1) := by decide +kernel
theorem dX3_ways_175 : decode cX3_ways 175 = .ok (.iastore, 1) := by decide +kernel
theorem dX3_ways_176 : decode cX3_ways 176 = .ok (.iinc 7 1, 3) := by decide +kernel
theorem dX3_ways_179 : decode cX3_ways 179 = .ok (.goto (-84), 3) := by decide +kernel
theorem dX3_ways_182 : decode cX3_ways 182 = .ok (.iload 5, 2) := by decide +kernel
theorem dX3_ways_184 : decode cX3_ways 184 = .ok (.ireturn, 1) := by decide +kernel
theorem dX3_withCut_0 : decode cX3_withCut 0 = .ok (.iload_n 1, 1) := by decide +kernel
theorem dX3_withCut_1 : decode cX3_withCut 1 = .ok (.ifCond .le 18, 3) := by decide +kernel
theorem dX3_withCut_4 : decode cX3_withCut 4 = .ok (.iload_n 1, 1) := by decide +kernel
theorem dX3_withCut_5 : decode cX3_withCut 5 = .ok (.iload_n 0, 1) := by decide +kernel
theorem dX3_withCut_6 : decode cX3_withCut 6 = .ok (.if_icmp .ge 13, 3) := by decide +kernel
theorem dX3_withCut_9 : decode cX3_withCut 9 = .ok (.iload_n 2, 1) := by decide +kernel
theorem dX3_withCut_10 : decode cX3_withCut 10 = .ok (.iconst 1, 1) := by decide +kernel
theorem dX3_withCut_11 : decode cX3_withCut 11 = .ok (.iload_n 1, 1) := by decide +kernel
theorem dX3_withCut_12 : decode cX3_withCut 12 = .ok (.iconst 1, 1) := by decide +kernel
theorem dX3_withCut_13 : decode cX3_withCut 13 = .ok (.isub, 1) := by decide +kernel
theorem dX3_withCut_14 : decode cX3_withCut 14 = .ok (.ishl, 1) := by decide +kernel
theorem dX3_withCut_15 : decode cX3_withCut 15 = .ok (.ior, 1) := by decide +kernel
theorem dX3_withCut_16 : decode cX3_withCut 16 = .ok (.goto 4, 3) := by decide +kernel
theorem dX3_withCut_19 : decode cX3_withCut 19 = .ok (.iload_n 2, 1) := by decide +kernel
theorem dX3_withCut_20 : decode cX3_withCut 20 = .ok (.ireturn, 1) := by decide +kernel
theorem dX4_init_0 : decode cX4_init 0 = .ok (.aload_n 0, 1) := by decide +kernel
theorem dX4_init_1 : decode cX4_init 1 = .ok (.invokespecial 3, 3) := by decide +kernel
theorem dX4_init_4 : decode cX4_init 4 = .ok (.aload_n 0, 1) := by decide +kernel
theorem dX4_init_5 : decode cX4_init 5 = .ok (.iconst 0, 1) := by decide +kernel
theorem dX4_init_6 : decode cX4_init 6 = .ok (.putfield 9, 3) := by decide +kernel
theorem dX4_init_9 : decode cX4_init 9 = .ok (.aload_n 0, 1) := by decide +kernel
theorem dX4_init_10 : decode cX4_init 10 = .ok (.iconst 1, 1) := by decide +kernel
theorem dX4_init_11 : decode cX4_init 11 = .ok (.putfield 15, 3) := by decide +kernel
theorem dX4_init_14 : decode cX4_init 14 = .ok (.aload_n 0, 1) := by decide +kernel
theorem dX4_init_15 : decode cX4_init 15 = .ok (.iconst 0, 1) := by decide +kernel
theorem dX4_init_16 : decode cX4_init 16 = .ok (.putfield 18, 3) := by decide +kernel
theorem dX4_init_19 : decode cX4_init 19 = .ok (.aload_n 0, 1) := by decide +kernel
theorem dX4_init_20 : decode cX4_init 20 = .ok (.iconst 0, 1) := by decide +kernel
theorem dX4_init_21 : decode cX4_init 21 = .ok (.putfield 21, 3) := by decide +kernel
theorem dX4_init_24 : decode cX4_init 24 = .ok (.aload_n 0, 1) := by decide +kernel
theorem dX4_init_25 : decode cX4_init 25 = .ok (.iconst 1, 1) := by decide +kernel
theorem dX4_init_26 : decode cX4_init 26 = .ok (.putfield 25, 3) := by decide +kernel
theorem dX4_init_29 : decode cX4_init 29 = .ok (.aload_n 0, 1) := by decide +kernel
theorem dX4_init_30 : decode cX4_init 30 = .ok (.iconst 0, 1) := by decide +kernel
theorem dX4_init_31 : decode cX4_init 31 = .ok (.putfield 28, 3) := by decide +kernel
theorem dX4_init_34 : decode cX4_init 34 = .ok (.aload_n 0, 1) := by decide +kernel
theorem dX4_init_35 : decode cX4_init 35 = .ok (.iconst 0, 1) := by decide +kernel
theorem dX4_init_36 : decode cX4_init 36 = .ok (.putfield 31, 3) := by decide +kernel
theorem dX4_init_39 : decode cX4_init 39 = .ok (.aload_n 0, 1) := by decide +kernel
theorem dX4_init_40 : decode cX4_init 40 = .ok (.iconst 0, 1) := by decide +kernel
theorem dX4_init_41 : decode cX4_init 41 = .ok (.putfield 34, 3) := by decide +kernel
theorem dX4_init_44 : decode cX4_init 44 = .ok (.aload_n 0, 1) := by decide +kernel
theorem dX4_init_45 : decode cX4_init 45 = .ok (.iconst 5, 1) := by decide +kernel
theorem dX4_init_46 : decode cX4_init 46 = .ok (.newarray .int, 2) := by decide +kernel
theorem dX4_init_48 : decode cX4_init 48 = .ok (.putfield 37, 3) := by decide +kernel
theorem dX4_init_51 : decode cX4_init 51 = .ok (.return_, 1) := by decide +kernel
set_option maxRecDepth 20000 in
theorem ggX4_addTerms_X4_beginTerm : GoodIn wsX4_addTerms wsX4_beginTerm := goodIn_r _ [13, 5, 7, 8, 14, 15, 16, 61, 62, 63, 64, 65, 66, 67, 68, 69] (by decide +kernel) (by decide +kernel)
set_option maxRecDepth 20000 in
theorem gX4_addTerms_X4_beginTerm : GoodIn wsX4_addTerms (wsV RX4 44 RX4 yX4_beginTerm wsX4_beginTerm) := goodIn_app (goodIn_of _ (by decide +kernel)) ggX4_addTerms_X4_beginTerm
set_option maxRecDepth 20000 in
theorem ggX4_addTerms_X2_signAt : GoodIn wsX4_addTerms wsX2_signAt := goodIn_r _ [21, 22, 70, 71] (by decide +kernel) (by decide +kernel)
set_option maxRecDepth 20000 in
theorem gX4_addTerms_X2_signAt : GoodIn wsX4_addTerms (wsV RX4 53 RX2 yX2_signAt wsX2_signAt) := goodIn_app (goodIn_of _ (by decide +kernel)) ggX4_addTerms_X2_signAt
set_option maxRecDepth 20000 in
theorem ggX4_addTerms_X4_takes : GoodIn wsX4_addTerms wsX4_takes := goodIn_r _ [26, 2, 27, 28, 29, 12, 30, 5, 9, 10, 11, 13, 7, 8, 14, 15, 16, 31, 32, 33, 34, 35, 36, 37, 38, 39, 40, 41, 42, 6, 61, 62, 63, 64, 65, 66, 67, 68, 69] (by decide +kernel) (by decide +kernel)
set_option maxRecDepth 20000 in
theorem gX4_addTerms_X4_takes : GoodIn wsX4_addTerms (wsV RX4 57 RX4 yX4_takes wsX4_takes) := goodIn_app (goodIn_of _ (by decide +kernel)) ggX4_addTerms_X4_takes
set_option maxRecDepth 20000 in
theorem ggX4_addTerms_X1_numberOf : GoodIn wsX4_addTerms wsX1_numberOf := goodIn_r _ [46, 47, 48, 45, 49] (by decide +kernel) (by decide +kernel)
set_option maxRecDepth 20000 in
theorem gX4_addTerms_X1_numberOf : GoodIn wsX4_addTerms (va_wsS RX4 61 yX1_numberOf wsX1_numberOf) := goodIn_app (goodIn_of _ (by decide +kernel)) ggX4_addTerms_X1_numberOf
theorem dX4_addTerms_0 : decode cX4_addTerms 0 = .ok (.aload_n 0, 1) := by decide +kernel
theorem dX4_addTerms_1 : decode cX4_addTerms 1 = .ok (.aload_n 2, 1) := by decide +kernel
theorem dX4_addTerms_2 : decode cX4_addTerms 2 = .ok (.getfield 41, 3) := by decide +kernel
theorem dX4_addTerms_5 : decode cX4_addTerms 5 = .ok (.putfield 15, 3) := by decide +kernel
theorem dX4_addTerms_8 : decode cX4_addTerms 8 = .ok (.aload_n 0, 1) := by decide +kernel
theorem dX4_addTerms_9 : decode cX4_addTerms 9 = .ok (.iconst 0, 1) := by decide +kernel
theorem dX4_addTerms_10 : decode cX4_addTerms 10 = .ok (.putfield 9, 3) := by decide +kernel
theorem dX4_addTerms_13 : decode cX4_addTerms 13 = .ok (.aload_n 0, 1) := by decide +kernel
theorem dX4_addTerms_14 : decode cX4_addTerms 14 = .ok (.iconst 0, 1) := by decide +kernel
theorem dX4_addTerms_15 : decode cX4_addTerms 15 = .ok (.iconst 0, 1) := by decide +kernel
theorem dX4_addTerms_16 : decode cX4_addTerms 16 = .ok (.invokevirtual 44, 3) := by decide +kernel
theorem dX4_addTerms_19 : decode cX4_addTerms 19 = .ok (.iconst 0, 1) := by decide +kernel
theorem dX4_addTerms_20 : decode cX4_addTerms 20 = .ok (.istore 4, 2) := by decide +kernel
theorem dX4_addTerms_22 : decode cX4_addTerms 22 = .ok (.iload 4, 2) := by decide +kernel
theorem dX4_addTerms_24 : decode cX4_addTerms 24 = .ok (.aload_n 1, 1) := by decide +kernel
theorem dX4_addTerms_25 : decode cX4_addTerms 25 = .ok (.getfield 48, 3) := by decide +kernel
theorem dX4_addTerms_28 : decode cX4_addTerms 28 = .ok (.if_icmp .ge 80, 3) := by decide +kernel
theorem dX4_addTerms_31 : decode cX4_addTerms 31 = .ok (.aload_n 0, 1) := by decide +kernel
theorem dX4_addTerms_32 : decode cX4_addTerms 32 = .ok (.aload_n 1, 1) := by decide +kernel
theorem dX4_addTerms_33 : decode cX4_addTerms 33 = .ok (.iload 4, 2) := by decide +kernel
theorem dX4_addTerms_35 : decode cX4_addTerms 35 = .ok (.invokevirtual 53, 3) := by decide +kernel
theorem dX4_addTerms_38 : decode cX4_addTerms 38 = .ok (.invokevirtual 57, 3) := by decide +kernel
theorem dX4_addTerms_41 : decode cX4_addTerms 41 = .ok (.ifCond .ne 6, 3) := by decide +kernel
theorem dX4_addTerms_44 : decode cX4_addTerms 44 = .ok (.iload 4, 2) := by decide +kernel
theorem dX4_addTerms_46 : decode cX4_addTerms 46 = .ok (.ireturn, 1) := by decide +kernel
theorem dX4_addTerms_47 : decode cX4_addTerms 47 = .ok (.aload_n 0, 1) := by decide +kernel
theorem dX4_addTerms_48 : decode cX4_addTerms 48 = .ok (.getfield 18, 3) := by decide +kernel
theorem dX4_addTerms_51 : decode cX4_addTerms 51 = .ok (.iconst 5, 1) := by decide +kernel
theorem dX4_addTerms_52 : decode cX4_addTerms 52 = .ok (.if_icmp .ne 50, 3) := by decide +kernel
theorem dX4_addTerms_55 : decode cX4_addTerms 55 = .ok (.aload_n 3, 1) := by decide +kernel
theorem dX4_addTerms_56 : decode cX4_addTerms 56 = .ok (.aload_n 0, 1) := by decide +kernel
theorem dX4_addTerms_57 : decode cX4_addTerms 57 = .ok (.getfield 37, 3) := by decide +kernel
theorem dX4_addTerms_60 : decode cX4_addTerms 60 = .ok (.aload_n 0, 1) := by decide +kernel
theorem dX4_addTerms_61 : decode cX4_addTerms 61 = .ok (.getfield 15, 3) := by decide +kernel
theorem dX4_addTerms_64 : decode cX4_addTerms 64 = .ok (.invokestatic 61, 3) := by decide +kernel
theorem dX4_addTerms_67 : decode cX4_addTerms 67 = .ok (.dup2, 1) := by decide +kernel
theorem dX4_addTerms_68 : decode cX4_addTerms 68 = .ok (.laload, 1) := by decide +kernel
theorem dX4_addTerms_69 : decode cX4_addTerms 69 = .ok (.aload_n 0, 1) := by decide +kernel
theorem dX4_addTerms_70 : decode cX4_addTerms 70 = .ok (.getfield 21, 3) := by decide +kernel
theorem dX4_addTerms_73 : decode cX4_addTerms 73 = .ok (.ifCond .eq 12, 3) := by decide +kernel
theorem dX4_addTerms_76 : decode cX4_addTerms 76 = .ok (.aload_n 0, 1) := by decide +kernel
theorem dX4_addTerms_77 : decode cX4_addTerms 77 = .ok (.getfield 25, 3) := by decide +kernel
theorem dX4_addTerms_80 : decode cX4_addTerms 80 = .ok (.ineg, 1) := by decide +kernel
theorem dX4_addTerms_81 : decode cX4_addTerms 81 = .ok (.i2l, 1) := by decide +kernel
theorem dX4_addTerms_82 : decode cX4_addTerms 82 = .ok (.goto 8, 3) := by decide +kernel
theorem dX4_addTerms_85 : decode cX4_addTerms 85 = .ok (.aload_n 0, 1) := by decide +kernel
theorem dX4_addTerms_86 : decode cX4_addTerms 86 = .ok (.getfield 25, 3) := by decide +kernel
theorem dX4_addTerms_89 : decode cX4_addTerms 89 = .ok (.i2l, 1) := by decide +kernel
theorem dX4_addTerms_90 : decode cX4_addTerms 90 = .ok (.ladd, 1) := by decide +kernel
theorem dX4_addTerms_91 : decode cX4_addTerms 91 = .ok (.lastore, 1) := by decide +kernel
theorem dX4_addTerms_92 : decode cX4_addTerms 92 = .ok (.aload_n 0, 1) := by decide +kernel
theorem dX4_addTerms_93 : decode cX4_addTerms 93 = .ok (.dup, 1) := by decide +kernel
theorem dX4_addTerms_94 : decode cX4_addTerms 94 = .ok (.getfield 9, 3) := by decide +kernel
theorem dX4_addTerms_97 : decode cX4_addTerms 97 = .ok (.iconst 1, 1) := by decide +kernel
theorem dX4_addTerms_98 : decode cX4_addTerms 98 = .ok (.iadd, 1) := by decide +kernel
theorem dX4_addTerms_99 : decode cX4_addTerms 99 = .ok (.putfield 9, 3) := by decide +kernel
theorem dX4_addTerms_102 : decode cX4_addTerms 102 = .ok (.iinc 4 1, 3) := by decide +kernel
theorem dX4_addTerms_105 : decode cX4_addTerms 105 = .ok (.goto (-83), 3) := by decide +kernel
theorem dX4_addTerms_108 : decode cX4_addTerms 108 = .ok (.aload_n 0, 1) := by decide +kernel
theorem dX4_addTerms_109 : decode cX4_addTerms 109 = .ok (.getfield 18, 3) := by decide +kernel
theorem dX4_addTerms_112 : decode cX4_addTerms 112 = .ok (.iconst 5, 1) := by decide +kernel
theorem dX4_addTerms_113 : decode cX4_addTerms 113 = .ok (.if_icmp .ne 7, 3) := by decide +kernel
theorem dX4_addTerms_116 : decode cX4_addTerms 116 = .ok (.iconst (-1), 1) := by decide +kernel
theorem dX4_addTerms_117 : decode cX4_addTerms 117 = .ok (.goto 7, 3) := by decide +kernel
theorem dX4_addTerms_120 : decode cX4_addTerms 120 = .ok (.aload_n 1, 1) := by decide +kernel
theorem dX4_addTerms_121 : decode cX4_addTerms 121 = .ok (.getfield 48, 3) := by decide +kernel
theorem dX4_addTerms_124 : decode cX4_addTerms 124 = .ok (.ireturn, 1) := by decide +kernel
theorem dX4_beginTerm_0 : decode cX4_beginTerm 0 = .ok (.aload_n 0, 1) := by decide +kernel
theorem dX4_beginTerm_1 : decode cX4_beginTerm 1 = .ok (.iload_n 1, 1) := by decide +kernel
theorem dX4_beginTerm_2 : decode cX4_beginTerm 2 = .ok (.putfield 18, 3) := by decide +kernel
theorem dX4_beginTerm_5 : decode cX4_beginTerm 5 = .ok (.aload_n 0, 1) := by decide +kernel
theorem dX4_beginTerm_6 : decode cX4_beginTerm 6 = .ok (.iload_n 2, 1) := by decide +kernel
theorem dX4_beginTerm_7 : decode cX4_beginTerm 7 = .ok (.putfield 21, 3) := by decide +kernel
theorem dX4_beginTerm_10 : decode cX4_beginTerm 10 = .ok (.aload_n 0, 1) := by decide +kernel
theorem dX4_beginTerm_11 : decode cX4_beginTerm 11 = .ok (.iconst 1, 1) := by decide +kernel
theorem dX4_beginTerm_12 : decode cX4_beginTerm 12 = .ok (.putfield 25, 3) := by decide +kernel
theorem dX4_beginTerm_15 : decode cX4_beginTerm 15 = .ok (.aload_n 0, 1) := by decide +kernel
theorem dX4_beginTerm_16 : decode cX4_beginTerm 16 = .ok (.iconst 0, 1) := by decide +kernel
theorem dX4_beginTerm_17 : decode cX4_beginTerm 17 = .ok (.putfield 28, 3) := by decide +kernel
theorem dX4_beginTerm_20 : decode cX4_beginTerm 20 = .ok (.aload_n 0, 1) := by decide +kernel
theorem dX4_beginTerm_21 : decode cX4_beginTerm 21 = .ok (.iconst 0, 1) := by decide +kernel
theorem dX4_beginTerm_22 : decode cX4_beginTerm 22 = .ok (.putfield 31, 3) := by decide +kernel
theorem dX4_beginTerm_25 : decode cX4_beginTerm 25 = .ok (.aload_n 0, 1) := by decide +kernel
theorem dX4_beginTerm_26 : decode cX4_beginTerm 26 = .ok (.iconst 0, 1) := by decide +kernel
theorem dX4_beginTerm_27 : decode cX4_beginTerm 27 = .ok (.putfield 34, 3) := by decide +kernel
theorem dX4_beginTerm_30 : decode cX4_beginTerm 30 = .ok (.return_, 1) := by decide +kernel
set_option maxRecDepth 20000 in
theorem ggX4_takes_X4_takesSign : GoodIn wsX4_takes wsX4_takesSign := goodIn_r _ [6, 7, 8, 9, 10, 5, 11, 12, 13, 14, 15, 16, 30, 31, 32, 33, 34, 35, 36, 37, 38] (by decide +kernel) (by decide +kernel)
set_option maxRecDepth 20000 in
theorem gX4_takes_X4_takesSign : GoodIn wsX4_takes (wsV RX4 65 RX4 yX4_takesSign wsX4_takesSign) := goodIn_app (goodIn_of _ (by decide +kernel)) ggX4_takes_X4_takesSign
set_option maxRecDepth 20000 in
theorem ggX4_takes_X4_takesDigit : GoodIn wsX4_takes wsX4_takesDigit := goodIn_r _ [20, 7, 13, 14, 30, 31, 32, 33, 34, 35, 36, 37, 38] (by decide +kernel) (by decide +kernel)
set_option maxRecDepth 20000 in
theorem gX4_takes_X4_takesDigit : GoodIn wsX4_takes (wsV RX4 69 RX4 yX4_takesDigit wsX4_takesDigit) := goodIn_app (goodIn_of _ (by decide +kernel)) ggX4_takes_X4_takesDigit
set_option maxRecDepth 20000 in
theorem ggX4_takes_X4_takesStar : GoodIn wsX4_takes wsX4_takesStar := goodIn_r _ [24, 7, 30, 31, 32, 33, 34, 35, 36, 37, 38] (by decide +kernel) (by decide +kernel)
set_option maxRecDepth 20000 in
theorem gX4_takes_X4_takesStar : GoodIn wsX4_takes (wsV RX4 73 RX4 yX4_takesStar wsX4_takesStar) := goodIn_app (goodIn_of _ (by decide +kernel)) ggX4_takes_X4_takesStar
set_option maxRecDepth 20000 in
theorem ggX4_takes_X4_takesLetter : GoodIn wsX4_takes wsX4_takesLetter := goodIn_r _ [28, 15, 7, 16, 1, 29, 30, 31, 32, 33, 34, 35, 36, 37, 38] (by decide +kernel) (by decide +kernel)
set_option maxRecDepth 20000 in
theorem gX4_takes_X4_takesLetter : GoodIn wsX4_takes (wsV RX4 77 RX4 yX4_takesLetter wsX4_takesLetter) := goodIn_app (goodIn_of _ (by decide +kernel)) ggX4_takes_X4_takesLetter
theorem dX4_takes_0 : decode cX4_takes 0 = .ok (.iload_n 1, 1) := by decide +kernel
theorem dX4_takes_1 : decode cX4_takes 1 = .ok (.bipush 43, 2) := by decide +kernel
theorem dX4_takes_3 : decode cX4_takes 3 = .ok (.if_icmp .eq 9, 3) := by decide +kernel
theorem dX4_takes_6 : decode cX4_takes 6 = .ok (.iload_n 1, 1) := by decide +kernel
theorem dX4_takes_7 : decode cX4_takes 7 = .ok (.bipush 45, 2) := by decide +kernel
theorem dX4_takes_9 : decode cX4_takes 9 = .ok (.if_icmp .ne 19, 3) := by decide +kernel
theorem dX4_takes_12 : decode cX4_takes 12 = .ok (.aload_n 0, 1) := by decide +kernel
theorem dX4_takes_13 : decode cX4_takes 13 = .ok (.iload_n 1, 1) := by decide +kernel
theorem dX4_takes_14 : decode cX4_takes 14 = .ok (.bipush 45, 2) := by decide +kernel
theorem dX4_takes_16 : decode cX4_takes 16 = .ok (.if_icmp .ne 7, 3) := by decide +kernel
theorem dX4_takes_19 : decode cX4_takes 19 = .ok (.iconst 1, 1) := by decide +kernel
theorem dX4_takes_20 : decode cX4_takes 20 = .ok (.goto 4, 3) := by decide +kernel
theorem dX4_takes_23 : decode cX4_takes 23 = .ok (.iconst 0, 1) := by decide +kernel
theorem dX4_takes_24 : decode cX4_takes 24 = .ok (.invokevirtual 65, 3) := by decide +kernel
theorem dX4_takes_27 : decode cX4_takes 27 = .ok (.ireturn, 1) := by decide +kernel
theorem dX4_takes_28 : decode cX4_takes 28 = .ok (.iload_n 1, 1) := by decide +kernel
theorem dX4_takes_29 : decode cX4_takes 29 = .ok (.bipush 48, 2) := by decide +kernel
theorem dX4_takes_31 : decode cX4_takes 31 = .ok (.if_icmp .lt 18, 3) := by decide +kernel
theorem dX4_takes_34 : decode cX4_takes 34 = .ok (.iload_n 1, 1) := by decide +kernel
theorem dX4_takes_35 : decode cX4_takes 35 = .ok (.bipush 57, 2) := by decide +kernel
theorem dX4_takes_37 : decode cX4_takes 37 = .ok (.if_icmp .gt 12, 3) := by decide +kernel
theorem dX4_takes_40 : decode cX4_takes 40 = .ok (.aload_n 0, 1) := by decide +kernel
theorem dX4_takes_41 : decode cX4_takes 41 = .ok (.iload_n 1, 1) := by decide +kernel
theorem dX4_takes_42 : decode cX4_takes 42 = .ok (.bipush 48, 2) := by decide +kernel
theorem dX4_takes_44 : decode cX4_takes 44 = .ok (.isub, 1) := by decide +kernel
theorem dX4_takes_45 : decode cX4_takes 45 = .ok (.invokevirtual 69, 3) := by decide +kernel
theorem dX4_takes_48 : decode cX4_takes 48 = .ok (.ireturn, 1) := by decide +kernel
theorem dX4_takes_49 : decode cX4_takes 49 = .ok (.iload_n 1, 1) := by decide +kernel
theorem dX4_takes_50 : decode cX4_takes 50 = .ok (.bipush 42, 2) := by decide +kernel
theorem dX4_takes_52 : decode cX4_takes 52 = .ok (.if_icmp .ne 8, 3) := by decide +kernel
theorem dX4_takes_55 : decode cX4_takes 55 = .ok (.aload_n 0, 1) := by decide +kernel
theorem dX4_takes_56 : decode cX4_takes 56 = .ok (.invokevirtual 73, 3) := by decide +kernel
theorem dX4_takes_59 : decode cX4_takes 59 = .ok (.ireturn, 1) := by decide +kernel
theorem dX4_takes_60 : decode cX4_takes 60 = .ok (.iload_n 1, 1) := by decide +kernel
theorem dX4_takes_61 : decode cX4_takes 61 = .ok (.bipush 97, 2) := by decide +kernel
theorem dX4_takes_63 : decode cX4_takes 63 = .ok (.if_icmp .lt 29, 3) := by decide +kernel
theorem dX4_takes_66 : decode cX4_takes 66 = .ok (.iload_n 1, 1) := by decide +kernel
theorem dX4_takes_67 : decode cX4_takes 67 = .ok (.bipush 97, 2) := by decide +kernel
theorem dX4_takes_69 : decode cX4_takes 69 = .ok (.aload_n 0, 1) := by decide +kernel
theorem dX4_takes_70 : decode cX4_takes 70 = .ok (.getfield 15, 3) := by decide +kernel
theorem dX4_takes_73 : decode cX4_takes 73 = .ok (.iadd, 1) := by decide +kernel
theorem dX4_takes_74 : decode cX4_takes 74 = .ok (.if_icmp .ge 18, 3) := by decide +kernel
theorem dX4_takes_77 : decode cX4_takes 77 = .ok (.aload_n 0, 1) := by decide +kernel
theorem dX4_takes_78 : decode cX4_takes 78 = .ok (.iload_n 1, 1) := by decide +kernel
theorem dX4_takes_79 : decode cX4_takes 79 = .ok (.bipush 97, 2) := by decide +kernel
theorem dX4_takes_81 : decode cX4_takes 81 = .ok (.isub, 1) := by decide +kernel
theorem dX4_takes_82 : decode cX4_takes 82 = .ok (.invokevirtual 77, 3) := by decide +kernel
theorem dX4_takes_85 : decode cX4_takes 85 = .ok (.ifCond .eq 7, 3) := by decide +kernel
theorem dX4_takes_88 : decode cX4_takes 88 = .ok (.iconst 1, 1) := by decide +kernel
theorem dX4_takes_89 : decode cX4_takes 89 = .ok (.goto 4, 3) := by decide +kernel
theorem dX4_takes_92 : decode cX4_takes 92 = .ok (.iconst 0, 1) := by decide +kernel
theorem dX4_takes_93 : decode cX4_takes 93 = .ok (.ireturn, 1) := by decide +kernel
set_option maxRecDepth 20000 in
theorem ggX4_takesSign_X4_beginTerm : GoodIn wsX4_takesSign wsX4_beginTerm := goodIn_r _ [6, 1, 7, 8, 9, 10, 11, 12, 13, 14, 15, 16, 17, 18, 19, 20] (by decide +kernel) (by decide +kernel)
set_option maxRecDepth 20000 in
theorem gX4_takesSign_X4_beginTerm : GoodIn wsX4_takesSign (wsV RX4 44 RX4 yX4_beginTerm wsX4_beginTerm) := goodIn_app (goodIn_of _ (by decide +kernel)) ggX4_takesSign_X4_beginTerm
theorem dX4_takesSign_0 : decode cX4_takesSign 0 = .ok (.aload_n 0, 1) := by decide +kernel
theorem dX4_takesSign_1 : decode cX4_takesSign 1 = .ok (.getfield 18, 3) := by decide +kernel
theorem dX4_takesSign_4 : decode cX4_takesSign 4 = .ok (.iconst 5, 1) := by decide +kernel
theorem dX4_takesSign_5 : decode cX4_takesSign 5 = .ok (.if_icmp .eq 16, 3) := by decide +kernel
theorem dX4_takesSign_8 : decode cX4_takesSign 8 = .ok (.aload_n 0, 1) := by decide +kernel
theorem dX4_takesSign_9 : decode cX4_takesSign 9 = .ok (.getfield 18, 3) := by decide +kernel
theorem dX4_takesSign_12 : decode cX4_takesSign 12 = .ok (.ifCond .ne 7, 3) := by decide +kernel
theorem dX4_takesSign_15 : decode cX4_takesSign 15 = .ok (.iload_n 1, 1) := by decide +kernel
theorem dX4_takesSign_16 : decode cX4_takesSign 16 = .ok (.ifCond .ne 5, 3) := by decide +kernel
theorem dX4_takesSign_19 : decode cX4_takesSign 19 = .ok (.iconst 0, 1) := by decide +kernel
theorem dX4_takesSign_20 : decode cX4_takesSign 20 = .ok (.ireturn, 1) := by decide +kernel
theorem dX4_takesSign_21 : decode cX4_takesSign 21 = .ok (.aload_n 0, 1) := by decide +kernel
theorem dX4_takesSign_22 : decode cX4_takesSign 22 = .ok (.iconst 1, 1) := by decide +kernel
theorem dX4_takesSign_23 : decode cX4_takesSign 23 = .ok (.iload_n 1, 1) := by decide +kernel
theorem dX4_takesSign_24 : decode cX4_takesSign 24 = .ok (.invokevirtual 44, 3) := by decide +kernel
theorem dX4_takesSign_27 : decode cX4_takesSign 27 = .ok (.iconst 1, 1) := by decide +kernel
theorem dX4_takesSign_28 : decode cX4_takesSign 28 = .ok (.ireturn, 1) := by decide +kernel
theorem dX4_takesDigit_0 : decode cX4_takesDigit 0 = .ok (.aload_n 0, 1) := by decide +kernel
theorem dX4_takesDigit_1 : decode cX4_takesDigit 1 = .ok (.getfield 18, 3) := by decide +kernel
theorem dX4_takesDigit_4 : decode cX4_takesDigit 4 = .ok (.ifCond .eq 11, 3) := by decide +kernel
theorem dX4_takesDigit_7 : decode cX4_takesDigit 7 = .ok (.aload_n 0, 1) := by decide +kernel
theorem dX4_takesDigit_8 : decode cX4_takesDigit 8 = .ok (.getfield 18, 3) := by decide +kernel
theorem dX4_takesDigit_11 : decode cX4_takesDigit 11 = .ok (.iconst 1, 1) := by decide +kernel
theorem dX4_takesDigit_12 : decode cX4_takesDigit 12 = .ok (.if_icmp .ne 19, 3) := by decide +kernel
theorem dX4_takesDigit_15 : decode cX4_takesDigit 15 = .ok (.iload_n 1, 1) := by decide +kernel
theorem dX4_takesDigit_16 : decode cX4_takesDigit 16 = .ok (.ifCond .ne 5, 3) := by decide +kernel
theorem dX4_takesDigit_19 : decode cX4_takesDigit 19 = .ok (.iconst 0, 1) := by decide +kernel
theorem dX4_takesDigit_20 : decode cX4_takesDigit 20 = .ok (.ireturn, 1) := by decide +kernel
theorem dX4_takesDigit_21 : decode cX4_takesDigit 21 = .ok (.aload_n 0, 1) := by decide +kernel
theorem dX4_takesDigit_22 : decode cX4_takesDigit 22 = .ok (.iconst 2, 1) := by decide +kernel
theorem dX4_takesDigit_23 : decode cX4_takesDigit 23 = .ok (.putfield 18, 3) := by decide +kernel
theorem dX4_takesDigit_26 : decode cX4_takesDigit 26 = .ok (.aload_n 0, 1) := by decide +kernel
theorem dX4_takesDigit_27 : decode cX4_takesDigit 27 = .ok (.iconst 0, 1) := by decide +kernel
theorem dX4_takesDigit_28 : decode cX4_takesDigit 28 = .ok (.putfield 25, 3) := by decide +kernel
theorem dX4_takesDigit_31 : decode cX4_takesDigit 31 = .ok (.aload_n 0, 1) := by decide +kernel
theorem dX4_takesDigit_32 : decode cX4_takesDigit 32 = .ok (.getfield 18, 3) := by decide +kernel
theorem dX4_takesDigit_35 : decode cX4_takesDigit 35 = .ok (.iconst 2, 1) := by decide +kernel
theorem dX4_takesDigit_36 : decode cX4_takesDigit 36 = .ok (.if_icmp .ne 11, 3) := by decide +kernel
theorem dX4_takesDigit_39 : decode cX4_takesDigit 39 = .ok (.aload_n 0, 1) := by decide +kernel
theorem dX4_takesDigit_40 : decode cX4_takesDigit 40 = .ok (.getfield 28, 3) := by decide +kernel
theorem dX4_takesDigit_43 : decode cX4_takesDigit 43 = .ok (.iconst 3, 1) := by decide +kernel
theorem dX4_takesDigit_44 : decode cX4_takesDigit 44 = .ok (.if_icmp .ne 5, 3) := by decide +kernel
theorem dX4_takesDigit_47 : decode cX4_takesDigit 47 = .ok (.iconst 0, 1) := by decide +kernel
theorem dX4_takesDigit_48 : decode cX4_takesDigit 48 = .ok (.ireturn, 1) := by decide +kernel
theorem dX4_takesDigit_49 : decode cX4_takesDigit 49 = .ok (.aload_n 0, 1) := by decide +kernel
theorem dX4_takesDigit_50 : decode cX4_takesDigit 50 = .ok (.aload_n 0, 1) := by decide +kernel
theorem dX4_takesDigit_51 : decode cX4_takesDigit 51 = .ok (.getfield 25, 3) := by decide +kernel
theorem dX4_takesDigit_54 : decode cX4_takesDigit 54 = .ok (.bipush 10, 2) := by decide +kernel
theorem dX4_takesDigit_56 : decode cX4_takesDigit 56 = .ok (.imul, 1) := by decide +kernel
theorem dX4_takesDigit_57 : decode cX4_takesDigit 57 = .ok (.iload_n 1, 1) := by decide +kernel
theorem dX4_takesDigit_58 : decode cX4_takesDigit 58 = .ok (.iadd, 1) := by decide +kernel
theorem dX4_takesDigit_59 : decode cX4_takesDigit 59 = .ok (.putfield 25, 3) := by decide +kernel
theorem dX4_takesDigit_62 : decode cX4_takesDigit 62 = .ok (.aload_n 0, 1) := by decide +kernel
theorem dX4_takesDigit_63 : decode cX4_takesDigit 63 = .ok (.dup, 1) := by decide +kernel
theorem dX4_takesDigit_64 : decode cX4_takesDigit 64 = .ok (.getfield 28, 3) := by decide +kernel
theorem dX4_takesDigit_67 : decode cX4_takesDigit 67 = .ok (.iconst 1, 1) := by decide +kernel
theorem dX4_takesDigit_68 : decode cX4_takesDigit 68 = .ok (.iadd, 1) := by decide +kernel
theorem dX4_takesDigit_69 : decode cX4_takesDigit 69 = .ok (.putfield 28, 3) := by decide +kernel
theorem dX4_takesDigit_72 : decode cX4_takesDigit 72 = .ok (.iconst 1, 1) := by decide +kernel
theorem dX4_takesDigit_73 : decode cX4_takesDigit 73 = .ok (.ireturn, 1) := by decide +kernel
theorem dX4_takesStar_0 : decode cX4_takesStar 0 = .ok (.aload_n 0, 1) := by decide +kernel
theorem dX4_takesStar_1 : decode cX4_takesStar 1 = .ok (.getfield 18, 3) := by decide +kernel
theorem dX4_takesStar_4 : decode cX4_takesStar 4 = .ok (.iconst 2, 1) := by decide +kernel
theorem dX4_takesStar_5 : decode cX4_takesStar 5 = .ok (.if_icmp .eq 5, 3) := by decide +kernel
theorem dX4_takesStar_8 : decode cX4_takesStar 8 = .ok (.iconst 0, 1) := by decide +kernel
theorem dX4_takesStar_9 : decode cX4_takesStar 9 = .ok (.ireturn, 1) := by decide +kernel
theorem dX4_takesStar_10 : decode cX4_takesStar 10 = .ok (.aload_n 0, 1) := by decide +kernel
theorem dX4_takesStar_11 : decode cX4_takesStar 11 = .ok (.iconst 3, 1) := by decide +kernel
theorem dX4_takesStar_12 : decode cX4_takesStar 12 = .ok (.putfield 18, 3) := by decide +kernel
theorem dX4_takesStar_15 : decode cX4_takesStar 15 = .ok (.iconst 1, 1) := by decide +kernel
theorem dX4_takesStar_16 : decode cX4_takesStar 16 = .ok (.ireturn, 1) := by decide +kernel
theorem dX4_takesLetter_0 : decode cX4_takesLetter 0 = .ok (.aload_n 0, 1) := by decide +kernel
theorem dX4_takesLetter_1 : decode cX4_takesLetter 1 = .ok (.getfield 31, 3) := by decide +kernel
theorem dX4_takesLetter_4 : decode cX4_takesLetter 4 = .ok (.iload_n 1, 1) := by decide +kernel
theorem dX4_takesLetter_5 : decode cX4_takesLetter 5 = .ok (.ishr, 1) := by decide +kernel
theorem dX4_takesLetter_6 : decode cX4_takesLetter 6 = .ok (.iconst 1, 1) := by decide +kernel
theorem dX4_takesLetter_7 : decode cX4_takesLetter 7 = .ok (.iand, 1) := by decide +kernel
theorem dX4_takesLetter_8 : decode cX4_takesLetter 8 = .ok (.iconst 1, 1) := by decide +kernel
theorem dX4_takesLetter_9 : decode cX4_takesLetter 9 = .ok (.if_icmp .ne 7, 3) := by decide +kernel
theorem dX4_takesLetter_12 : decode cX4_takesLetter 12 = .ok (.iconst 1, 1) := by decide +kernel
theorem dX4_takesLetter_13 : decode cX4_takesLetter 13 = .ok (.goto 4, 3) := by decide +kernel
theorem dX4_takesLetter_16 : decode cX4_takesLetter 16 = .ok (.iconst 0, 1) := by decide +kernel
theorem dX4_takesLetter_17 : decode cX4_takesLetter 17 = .ok (.istore_n 2, 1) := by decide +kernel
theorem dX4_takesLetter_18 : decode cX4_takesLetter 18 = .ok (.aload_n 0, 1) := by decide +kernel
theorem dX4_takesLetter_19 : decode cX4_takesLetter 19 = .ok (.getfield 18, 3) := by decide +kernel
theorem dX4_takesLetter_22 : decode cX4_takesLetter 22 = .ok (.iconst 2, 1) := by decide +kernel
theorem dX4_takesLetter_23 : decode cX4_takesLetter 23 = .ok (.if_icmp .eq 26, 3) := by decide +kernel
theorem dX4_takesLetter_26 : decode cX4_takesLetter 26 = .ok (.aload_n 0, 1) := by decide +kernel
theorem dX4_takesLetter_27 : decode cX4_takesLetter 27 = .ok (.getfield 18, 3) := by decide +kernel
theorem dX4_takesLetter_30 : decode cX4_takesLetter 30 = .ok (.iconst 5, 1) := by decide +kernel
theorem dX4_takesLetter_31 : decode cX4_takesLetter 31 = .ok (.if_icmp .eq 18, 3) := by decide +kernel
theorem dX4_takesLetter_34 : decode cX4_takesLetter 34 = .ok (.iload_n 2, 1) := by decide +kernel
theorem dX4_takesLetter_35 : decode cX4_takesLetter 35 = .ok (.ifCond .ne 14, 3) := by decide +kernel
theorem dX4_takesLetter_38 : decode cX4_takesLetter 38 = .ok (.aload_n 0, 1) := by decide +kernel
theorem dX4_takesLetter_39 : decode cX4_takesLetter 39 = .ok (.getfield 34, 3) := by decide +kernel
theorem dX4_takesLetter_42 : decode cX4_takesLetter 42 = .ok (.aload_n 0, 1) := by decide +kernel
theorem dX4_takesLetter_43 : decode cX4_takesLetter 43 = .ok (.getfield 15, 3) := by decide +kernel
theorem dX4_takesLetter_46 : decode cX4_takesLetter 46 = .ok (.if_icmp .lt 5, 3) := by decide +kernel
theorem dX4_takesLetter_49 : decode cX4_takesLetter 49 = .ok (.iconst 0, 1) := by decide +kernel
theorem dX4_takesLetter_50 : decode cX4_takesLetter 50 = .ok (.ireturn, 1) := by decide +kernel
theorem dX4_takesLetter_51 : decode cX4_takesLetter 51 = .ok (.aload_n 0, 1) := by decide +kernel
theorem dX4_takesLetter_52 : decode cX4_takesLetter 52 = .ok (.dup, 1) := by decide +kernel
theorem dX4_takesLetter_53 : decode cX4_takesLetter 53 = .ok (.getfield 31, 3) := by decide +kernel
theorem dX4_takesLetter_56 : decode cX4_takesLetter 56 = .ok (.iconst 1, 1) := by decide +kernel
theorem dX4_takesLetter_57 : decode cX4_takesLetter 57 = .ok (.iload_n 1, 1) := by decide +kernel
theorem dX4_takesLetter_58 : decode cX4_takesLetter 58 = .ok (.ishl, 1) := by decide +kernel
theorem dX4_takesLetter_59 : decode cX4_takesLetter 59 = .ok (.ior, 1) := by decide +kernel
theorem dX4_takesLetter_60 : decode cX4_takesLetter 60 = .ok (.putfield 31, 3) := by decide +kernel
theorem dX4_takesLetter_63 : decode cX4_takesLetter 63 = .ok (.aload_n 0, 1) := by decide +kernel
theorem dX4_takesLetter_64 : decode cX4_takesLetter 64 = .ok (.getfield 37, 3) := by decide +kernel
theorem dX4_takesLetter_67 : decode cX4_takesLetter 67 = .ok (.aload_n 0, 1) := by decide +kernel
theorem dX4_takesLetter_68 : decode cX4_takesLetter 68 = .ok (.getfield 34, 3) := by decide +kernel
theorem dX4_takesLetter_71 : decode cX4_takesLetter 71 = .ok (.iload_n 1, 1) := by decide +kernel
theorem dX4_takesLetter_72 : decode cX4_takesLetter 72 = .ok (.iconst 1, 1) := by decide +kernel
theorem dX4_takesLetter_73 : decode cX4_takesLetter 73 = .ok (.iadd, 1) := by decide +kernel
theorem dX4_takesLetter_74 : decode cX4_takesLetter 74 = .ok (.iastore, 1) := by decide +kernel
theorem dX4_takesLetter_75 : decode cX4_takesLetter 75 = .ok (.aload_n 0, 1) := by decide +kernel
theorem dX4_takesLetter_76 : decode cX4_takesLetter 76 = .ok (.dup, 1) := by decide +kernel
theorem dX4_takesLetter_77 : decode cX4_takesLetter 77 = .ok (.getfield 34, 3) := by decide +kernel
theorem dX4_takesLetter_80 : decode cX4_takesLetter 80 = .ok (.iconst 1, 1) := by decide +kernel
theorem dX4_takesLetter_81 : decode cX4_takesLetter 81 = .ok (.iadd, 1) := by decide +kernel
theorem dX4_takesLetter_82 : decode cX4_takesLetter 82 = .ok (.putfield 34, 3) := by decide +kernel
theorem dX4_takesLetter_85 : decode cX4_takesLetter 85 = .ok (.aload_n 0, 1) := by decide +kernel
theorem dX4_takesLetter_86 : decode cX4_takesLetter 86 = .ok (.aload_n 0, 1) := by decide +kernel
theorem dX4_takesLetter_87 : decode cX4_takesLetter 87 = .ok (.getfield 34, 3) := by decide +kernel
theorem dX4_takesLetter_90 : decode cX4_takesLetter 90 = .ok (.aload_n 0, 1) := by decide +kernel
theorem dX4_takesLetter_91 : decode cX4_takesLetter 91 = .ok (.getfield 15, 3) := by decide +kernel
theorem dX4_takesLetter_94 : decode cX4_takesLetter 94 = .ok (.if_icmp .ne 7, 3) := by decide +kernel
theorem dX4_takesLetter_97 : decode cX4_takesLetter 97 = .ok (.iconst 5, 1) := by decide +kernel
theorem dX4_takesLetter_98 : decode cX4_takesLetter 98 = .ok (.goto 4, 3) := by decide +kernel
theorem dX4_takesLetter_101 : decode cX4_takesLetter 101 = .ok (.iconst 4, 1) := by decide +kernel
theorem dX4_takesLetter_102 : decode cX4_takesLetter 102 = .ok (.putfield 18, 3) := by decide +kernel
theorem dX4_takesLetter_105 : decode cX4_takesLetter 105 = .ok (.iconst 1, 1) := by decide +kernel
theorem dX4_takesLetter_106 : decode cX4_takesLetter 106 = .ok (.ireturn, 1) := by decide +kernel
set_option maxRecDepth 20000 in
theorem ggX5_init_X0_init : GoodIn wsX5_init wsX0_init := goodIn_r _ [30, 31, 2, 3, 32, 33, 7, 34, 35, 36, 129, 130, 131, 132] (by decide +kernel) (by decide +kernel)
set_option maxRecDepth 20000 in
theorem gX5_init_X0_init_n29 : GoodIn wsX5_init (wsX0_init) := ggX5_init_X0_init
set_option maxRecDepth 20000 in
theorem ggX5_init_X2_init : GoodIn wsX5_init wsX2_init := goodIn_r _ [38, 39, 2, 3, 40, 41, 42, 133, 134] (by decide +kernel) (by decide +kernel)
set_option maxRecDepth 20000 in
theorem gX5_init_X2_init_n36 : GoodIn wsX5_init (wsX2_init) := ggX5_init_X2_init
set_option maxRecDepth 20000 in
theorem ggX5_init_X4_init : GoodIn wsX5_init wsX4_init := goodIn_r _ [44, 45, 2, 3, 46, 47, 48, 49, 50, 51, 52, 53, 7, 54, 135, 136, 137, 138, 139, 140, 141, 142, 143] (by decide +kernel) (by decide +kernel)
set_option maxRecDepth 20000 in
theorem gX5_init_X4_init_n43 : GoodIn wsX5_init (wsX4_init) := ggX5_init_X4_init
set_option maxRecDepth 20000 in
theorem ggX5_init_X3_init : GoodIn wsX5_init wsX3_init := goodIn_r _ [56, 57, 2, 3, 58, 59, 60, 61, 7, 62, 63, 144, 145, 146, 147, 148, 149] (by decide +kernel) (by decide +kernel)
set_option maxRecDepth 20000 in
theorem gX5_init_X3_init_n50 : GoodIn wsX5_init (wsX3_init) := ggX5_init_X3_init
set_option maxRecDepth 20000 in
theorem ggX5_init_X5_ordersWith : GoodIn wsX5_init wsX5_ordersWith := goodIn_r _ [68, 5, 4, 69, 70, 71, 72, 73, 74, 2, 3, 75, 76, 77, 7, 78, 79, 80, 81, 82, 83, 84, 85, 86, 87, 88, 89, 90, 91, 92, 93, 94, 95, 96, 97, 98, 99, 100, 101, 102, 103, 104, 105, 106, 107, 108, 109, 110, 111, 112, 113, 114, 115, 116, 117, 118, 119, 120, 121, 122, 123, 124, 125, 126, 127, 128, 150, 151, 152, 153, 154, 155, 156, 157, 158, 159, 160] (by decide +kernel) (by decide +kernel)
set_option maxRecDepth 20000 in
theorem gX5_init_X5_ordersWith : GoodIn wsX5_init (wsV RX5 55 RX5 yX5_ordersWith wsX5_ordersWith) := goodIn_app (goodIn_of _ (by decide +kernel)) ggX5_init_X5_ordersWith
theorem dX5_init_0 : decode cX5_init 0 = .ok (.aload_n 0, 1) := by decide +kernel
theorem dX5_init_1 : decode cX5_init 1 = .ok (.invokespecial 1, 3) := by decide +kernel
theorem dX5_init_4 : decode cX5_init 4 = .ok (.aload_n 0, 1) := by decide +kernel
theorem dX5_init_5 : decode cX5_init 5 = .ok (.bipush 6, 2) := by decide +kernel
theorem dX5_init_7 : decode cX5_init 7 = .ok (.anewarray 9, 3) := by decide +kernel
theorem dX5_init_10 : decode cX5_init 10 = .ok (.putfield 11, 3) := by decide +kernel
theorem dX5_init_13 : decode cX5_init 13 = .ok (.aload_n 0, 1) := by decide +kernel
theorem dX5_init_14 : decode cX5_init 14 = .ok (.iconst 3, 1) := by decide +kernel
theorem dX5_init_15 : decode cX5_init 15 = .ok (.bipush 120, 2) := by decide +kernel
theorem dX5_init_17 : decode cX5_init 17 = .ok (.multianewarray 15 2, 4) := by decide +kernel
theorem dX5_init_21 : decode cX5_init 21 = .ok (.putfield 17, 3) := by decide +kernel
theorem dX5_init_24 : decode cX5_init 24 = .ok (.aload_n 0, 1) := by decide +kernel
theorem dX5_init_25 : decode cX5_init 25 = .ok (.bipush 120, 2) := by decide +kernel
theorem dX5_init_27 : decode cX5_init 27 = .ok (.newarray .long, 2) := by decide +kernel
theorem dX5_init_29 : decode cX5_init 29 = .ok (.putfield 20, 3) := by decide +kernel
theorem dX5_init_32 : decode cX5_init 32 = .ok (.aload_n 0, 1) := by decide +kernel
theorem dX5_init_33 : decode cX5_init 33 = .ok (.bipush 16, 2) := by decide +kernel
theorem dX5_init_35 : decode cX5_init 35 = .ok (.newarray .long, 2) := by decide +kernel
theorem dX5_init_37 : decode cX5_init 37 = .ok (.putfield 24, 3) := by decide +kernel
theorem dX5_init_40 : decode cX5_init 40 = .ok (.aload_n 0, 1) := by decide +kernel
theorem dX5_init_41 : decode cX5_init 41 = .ok (.new 27, 3) := by decide +kernel
theorem dX5_init_44 : decode cX5_init 44 = .ok (.dup, 1) := by decide +kernel
theorem dX5_init_45 : decode cX5_init 45 = .ok (.invokespecial 29, 3) := by decide +kernel
theorem dX5_init_48 : decode cX5_init 48 = .ok (.putfield 30, 3) := by decide +kernel
theorem dX5_init_51 : decode cX5_init 51 = .ok (.aload_n 0, 1) := by decide +kernel
theorem dX5_init_52 : decode cX5_init 52 = .ok (.new 34, 3) := by decide +kernel
theorem dX5_init_55 : decode cX5_init 55 = .ok (.dup, 1) := by decide +kernel
theorem dX5_init_56 : decode cX5_init 56 = .ok (.invokespecial 36, 3) := by decide +kernel
theorem dX5_init_59 : decode cX5_init 59 = .ok (.putfield 37, 3) := by decide +kernel
theorem dX5_init_62 : decode cX5_init 62 = .ok (.aload_n 0, 1) := by decide +kernel
theorem dX5_init_63 : decode cX5_init 63 = .ok (.new 41, 3) := by decide +kernel
theorem dX5_init_66 : decode cX5_init 66 = .ok (.dup, 1) := by decide +kernel
theorem dX5_init_67 : decode cX5_init 67 = .ok (.invokespecial 43, 3) := by decide +kernel
theorem dX5_init_70 : decode cX5_init 70 = .ok (.putfield 44, 3) := by decide +kernel
theorem dX5_init_73 : decode cX5_init 73 = .ok (.aload_n 0, 1) := by decide +kernel
theorem dX5_init_74 : decode cX5_init 74 = .ok (.new 48, 3) := by decide +kernel
theorem dX5_init_77 : decode cX5_init 77 = .ok (.dup, 1) := by decide +kernel
theorem dX5_init_78 : decode cX5_init 78 = .ok (.invokespecial 50, 3) := by decide +kernel
theorem dX5_init_81 : decode cX5_init 81 = .ok (.putfield 51, 3) := by decide +kernel
theorem dX5_init_84 : decode cX5_init 84 = .ok (.aload_n 0, 1) := by decide +kernel
theorem dX5_init_85 : decode cX5_init 85 = .ok (.aload_n 0, 1) := by decide +kernel
theorem dX5_init_86 : decode cX5_init 86 = .ok (.iconst 3, 1) := by decide +kernel
theorem dX5_init_87 : decode cX5_init 87 = .ok (.invokevirtual 55, 3) := by decide +kernel
theorem dX5_init_90 : decode cX5_init 90 = .ok (.putfield 59, 3) := by decide +kernel
theorem dX5_init_93 : decode cX5_init 93 = .ok (.return_, 1) := by decide +kernel
set_option maxRecDepth 20000 in
theorem ggX5_begin_X5_isWithin : GoodIn wsX5_begin wsX5_isWithin := goodIn_r _ [10] (by decide +kernel) (by decide +kernel)
set_option maxRecDepth 20000 in
theorem gX5_begin_X5_isWithin : GoodIn wsX5_begin (va_wsS RX5 63 yX5_isWithin wsX5_isWithin) := goodIn_app (goodIn_of _ (by decide +kernel)) ggX5_begin_X5_isWithin
set_option maxRecDepth 20000 in
theorem ggX5_begin_X0_keep : GoodIn wsX5_begin wsX0_keep := goodIn_r _ [15, 16, 17, 18, 19, 20, 21, 22, 23, 24, 25, 26, 27, 108, 109, 110, 111] (by decide +kernel) (by decide +kernel)
set_option maxRecDepth 20000 in
theorem gX5_begin_X0_keep : GoodIn wsX5_begin (wsV RX5 72 RX0 yX0_keep wsX0_keep) := goodIn_app (goodIn_of _ (by decide +kernel)) ggX5_begin_X0_keep
set_option maxRecDepth 20000 in
theorem ggX5_begin_X5_ordersWith : GoodIn wsX5_begin wsX5_ordersWith := goodIn_r _ [31, 32, 33, 34, 35, 36, 37, 38, 39, 40, 41, 42, 43, 44, 45, 46, 47, 48, 49, 50, 51, 52, 53, 54, 55, 56, 57, 58, 59, 60, 61, 62, 63, 64, 65, 66, 67, 68, 69, 70, 71, 72, 73, 74, 75, 76, 77, 78, 79, 80, 81, 82, 83, 84, 85, 86, 87, 88, 89, 90, 91, 92, 93, 94, 95, 96, 97, 98, 99, 100, 101, 102, 103, 104, 105, 106, 107] (by decide +kernel) (by decide +kernel)
set_option maxRecDepth 20000 in
theorem gX5_begin_X5_ordersWith : GoodIn wsX5_begin (wsV RX5 55 RX5 yX5_ordersWith wsX5_ordersWith) := goodIn_app (goodIn_of _ (by decide +kernel)) ggX5_begin_X5_ordersWith
theorem dX5_begin_0 : decode cX5_begin 0 = .ok (.iload_n 1, 1) := by decide +kernel
theorem dX5_begin_1 : decode cX5_begin 1 = .ok (.iconst 1, 1) := by decide +kernel
theorem dX5_begin_2 : decode cX5_begin 2 = .ok (.iconst 5, 1) := by decide +kernel
theorem dX5_begin_3 : decode cX5_begin 3 = .ok (.invokestatic 63, 3) := by decide +kernel
theorem dX5_begin_6 : decode cX5_begin 6 = .ok (.ifCond .ne 6, 3) := by decide +kernel
theorem dX5_begin_9 : decode cX5_begin 9 = .ok (.ldc 67, 2) := by decide +kernel
theorem dX5_begin_11 : decode cX5_begin 11 = .ok (.ireturn, 1) := by decide +kernel
theorem dX5_begin_12 : decode cX5_begin 12 = .ok (.aload_n 0, 1) := by decide +kernel
theorem dX5_begin_13 : decode cX5_begin 13 = .ok (.getfield 30, 3) := by decide +kernel
theorem dX5_begin_16 : decode cX5_begin 16 = .ok (.aload_n 0, 1) := by decide +kernel
theorem dX5_begin_17 : decode cX5_begin 17 = .ok (.getfield 59, 3) := by decide +kernel
theorem dX5_begin_20 : decode cX5_begin 20 = .ok (.getfield 68, 3) := by decide +kernel
theorem dX5_begin_23 : decode cX5_begin 23 = .ok (.aload_n 0, 1) := by decide +kernel
theorem dX5_begin_24 : decode cX5_begin 24 = .ok (.getfield 17, 3) := by decide +kernel
theorem dX5_begin_27 : decode cX5_begin 27 = .ok (.invokevirtual 72, 3) := by decide +kernel
theorem dX5_begin_30 : decode cX5_begin 30 = .ok (.iconst 0, 1) := by decide +kernel
