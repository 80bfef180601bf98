theorem dX6_multiplies_61 : decode cX6_multiplies 61 = .ok (.invokevirtual 118, 3) := by decide +kernel
theorem dX6_multiplies_64 : decode cX6_multiplies 64 = .ok (.i2l, 1) := by decide +kernel
theorem dX6_multiplies_65 : decode cX6_multiplies 65 = .ok (.aload_n 0, 1) := by decide +kernel
theorem dX6_multiplies_66 : decode cX6_multiplies 66 = .ok (.iload_n 2, 1) := by decide +kernel
theorem dX6_multiplies_67 : decode cX6_multiplies 67 = .ok (.iload 4, 2) := by decide +kernel
theorem dX6_multiplies_69 : decode cX6_multiplies 69 = .ok (.invokevirtual 118, 3) := by decide +kernel
theorem dX6_multiplies_72 : decode cX6_multiplies 72 = .ok (.i2l, 1) := by decide +kernel
theorem dX6_multiplies_73 : decode cX6_multiplies 73 = .ok (.lmul, 1) := by decide +kernel
theorem dX6_multiplies_74 : decode cX6_multiplies 74 = .ok (.ladd, 1) := by decide +kernel
theorem dX6_multiplies_75 : decode cX6_multiplies 75 = .ok (.lastore, 1) := by decide +kernel
theorem dX6_multiplies_76 : decode cX6_multiplies 76 = .ok (.iinc 4 1, 3) := by decide +kernel
theorem dX6_multiplies_79 : decode cX6_multiplies 79 = .ok (.goto (-62), 3) := by decide +kernel
theorem dX6_multiplies_82 : decode cX6_multiplies 82 = .ok (.iinc 3 1, 3) := by decide +kernel
theorem dX6_multiplies_85 : decode cX6_multiplies 85 = .ok (.goto (-79), 3) := by decide +kernel
theorem dX6_multiplies_88 : decode cX6_multiplies 88 = .ok (.return_, 1) := by decide +kernel
theorem dX6_madeOthers_0 : decode cX6_madeOthers 0 = .ok (.iconst 0, 1) := by decide +kernel
theorem dX6_madeOthers_1 : decode cX6_madeOthers 1 = .ok (.istore_n 1, 1) := by decide +kernel
theorem dX6_madeOthers_2 : decode cX6_madeOthers 2 = .ok (.iconst 0, 1) := by decide +kernel
theorem dX6_madeOthers_3 : decode cX6_madeOthers 3 = .ok (.istore_n 2, 1) := by decide +kernel
theorem dX6_madeOthers_4 : decode cX6_madeOthers 4 = .ok (.iload_n 2, 1) := by decide +kernel
theorem dX6_madeOthers_5 : decode cX6_madeOthers 5 = .ok (.bipush 120, 2) := by decide +kernel
theorem dX6_madeOthers_7 : decode cX6_madeOthers 7 = .ok (.if_icmp .ge 28, 3) := by decide +kernel
theorem dX6_madeOthers_10 : decode cX6_madeOthers 10 = .ok (.iload_n 1, 1) := by decide +kernel
theorem dX6_madeOthers_11 : decode cX6_madeOthers 11 = .ok (.aload_n 0, 1) := by decide +kernel
theorem dX6_madeOthers_12 : decode cX6_madeOthers 12 = .ok (.getfield 22, 3) := by decide +kernel
theorem dX6_madeOthers_15 : decode cX6_madeOthers 15 = .ok (.iload_n 2, 1) := by decide +kernel
theorem dX6_madeOthers_16 : decode cX6_madeOthers 16 = .ok (.laload, 1) := by decide +kernel
theorem dX6_madeOthers_17 : decode cX6_madeOthers 17 = .ok (.lconst 0, 1) := by decide +kernel
theorem dX6_madeOthers_18 : decode cX6_madeOthers 18 = .ok (.lcmp, 1) := by decide +kernel
theorem dX6_madeOthers_19 : decode cX6_madeOthers 19 = .ok (.ifCond .ne 7, 3) := by decide +kernel
theorem dX6_madeOthers_22 : decode cX6_madeOthers 22 = .ok (.iconst 0, 1) := by decide +kernel
theorem dX6_madeOthers_23 : decode cX6_madeOthers 23 = .ok (.goto 4, 3) := by decide +kernel
theorem dX6_madeOthers_26 : decode cX6_madeOthers 26 = .ok (.iconst 1, 1) := by decide +kernel
theorem dX6_madeOthers_27 : decode cX6_madeOthers 27 = .ok (.iadd, 1) := by decide +kernel
theorem dX6_madeOthers_28 : decode cX6_madeOthers 28 = .ok (.istore_n 1, 1) := by decide +kernel
theorem dX6_madeOthers_29 : decode cX6_madeOthers 29 = .ok (.iinc 2 1, 3) := by decide +kernel
theorem dX6_madeOthers_32 : decode cX6_madeOthers 32 = .ok (.goto (-28), 3) := by decide +kernel
theorem dX6_madeOthers_35 : decode cX6_madeOthers 35 = .ok (.iload_n 1, 1) := by decide +kernel
theorem dX6_madeOthers_36 : decode cX6_madeOthers 36 = .ok (.ireturn, 1) := by decide +kernel
set_option maxRecDepth 20000 in
theorem ggX6_multiply_X6_isSum : GoodIn wsX6_multiply wsX6_isSum := goodIn_r _ [5, 6, 7, 8, 4, 9] (by decide +kernel) (by decide +kernel)
set_option maxRecDepth 20000 in
theorem gX6_multiply_X6_isSum : GoodIn wsX6_multiply (va_wsS RX6 131 yX6_isSum wsX6_isSum) := goodIn_app (goodIn_of _ (by decide +kernel)) ggX6_multiply_X6_isSum
set_option maxRecDepth 20000 in
theorem ggX6_multiply_X6_multiplies : GoodIn wsX6_multiply wsX6_multiplies := goodIn_r _ [13, 14, 15, 16, 17, 4, 18, 19, 20, 21, 22, 23, 24, 25, 26, 27, 28, 29, 30, 31, 32, 33, 34, 35, 36, 37, 38, 39, 40, 41, 42, 43, 44, 45, 46, 47, 48, 49, 50, 51, 52, 53, 54, 55, 56, 57, 75, 76, 77, 78, 79, 80, 81, 82, 83, 84, 85, 86, 87, 88, 89, 90, 91, 92, 93, 94, 95] (by decide +kernel) (by decide +kernel)
set_option maxRecDepth 20000 in
theorem gX6_multiply_X6_multiplies : GoodIn wsX6_multiply (wsV RX6 158 RX6 yX6_multiplies wsX6_multiplies) := goodIn_app (goodIn_of _ (by decide +kernel)) ggX6_multiply_X6_multiplies
set_option maxRecDepth 20000 in
theorem ggX6_multiply_X6_madeOthers : GoodIn wsX6_multiply wsX6_madeOthers := goodIn_r _ [61, 14, 75, 76, 77, 78, 79, 80, 81, 82, 83, 84, 85, 86, 87, 88, 89, 90, 91, 92, 93, 94, 95] (by decide +kernel) (by decide +kernel)
set_option maxRecDepth 20000 in
theorem gX6_multiply_X6_madeOthers : GoodIn wsX6_multiply (wsV RX6 161 RX6 yX6_madeOthers wsX6_madeOthers) := goodIn_app (goodIn_of _ (by decide +kernel)) ggX6_multiply_X6_madeOthers
set_option maxRecDepth 20000 in
theorem ggX6_multiply_X6_becomes : GoodIn wsX6_multiply wsX6_becomes := goodIn_r _ [65, 14, 66, 67, 68, 27, 7, 8, 4, 9, 69, 70, 71, 72, 73, 74, 75, 76, 77, 78, 79, 80, 81, 82, 83, 84, 85, 86, 87, 88, 89, 90, 91, 92, 93, 94, 95] (by decide +kernel) (by decide +kernel)
set_option maxRecDepth 20000 in
theorem gX6_multiply_X6_becomes : GoodIn wsX6_multiply (wsV RX6 142 RX6 yX6_becomes wsX6_becomes) := goodIn_app (goodIn_of _ (by decide +kernel)) ggX6_multiply_X6_becomes
theorem dX6_multiply_0 : decode cX6_multiply 0 = .ok (.iload_n 1, 1) := by decide +kernel
theorem dX6_multiply_1 : decode cX6_multiply 1 = .ok (.invokestatic 131, 3) := by decide +kernel
theorem dX6_multiply_4 : decode cX6_multiply 4 = .ok (.ifCond .eq 17, 3) := by decide +kernel
theorem dX6_multiply_7 : decode cX6_multiply 7 = .ok (.iload_n 2, 1) := by decide +kernel
theorem dX6_multiply_8 : decode cX6_multiply 8 = .ok (.invokestatic 131, 3) := by decide +kernel
theorem dX6_multiply_11 : decode cX6_multiply 11 = .ok (.ifCond .eq 10, 3) := by decide +kernel
theorem dX6_multiply_14 : decode cX6_multiply 14 = .ok (.iload_n 3, 1) := by decide +kernel
theorem dX6_multiply_15 : decode cX6_multiply 15 = .ok (.invokestatic 131, 3) := by decide +kernel
theorem dX6_multiply_18 : decode cX6_multiply 18 = .ok (.ifCond .ne 6, 3) := by decide +kernel
theorem dX6_multiply_21 : decode cX6_multiply 21 = .ok (.ldc 97, 2) := by decide +kernel
theorem dX6_multiply_23 : decode cX6_multiply 23 = .ok (.ireturn, 1) := by decide +kernel
theorem dX6_multiply_24 : decode cX6_multiply 24 = .ok (.aload_n 0, 1) := by decide +kernel
theorem dX6_multiply_25 : decode cX6_multiply 25 = .ok (.iload_n 2, 1) := by decide +kernel
theorem dX6_multiply_26 : decode cX6_multiply 26 = .ok (.iload_n 3, 1) := by decide +kernel
theorem dX6_multiply_27 : decode cX6_multiply 27 = .ok (.invokevirtual 158, 3) := by decide +kernel
theorem dX6_multiply_30 : decode cX6_multiply 30 = .ok (.aload_n 0, 1) := by decide +kernel
theorem dX6_multiply_31 : decode cX6_multiply 31 = .ok (.iload_n 1, 1) := by decide +kernel
theorem dX6_multiply_32 : decode cX6_multiply 32 = .ok (.aload_n 0, 1) := by decide +kernel
theorem dX6_multiply_33 : decode cX6_multiply 33 = .ok (.invokevirtual 161, 3) := by decide +kernel
theorem dX6_multiply_36 : decode cX6_multiply 36 = .ok (.invokevirtual 142, 3) := by decide +kernel
theorem dX6_multiply_39 : decode cX6_multiply 39 = .ok (.ireturn, 1) := by decide +kernel
set_option maxRecDepth 20000 in
theorem ggX6_combine_X6_isSum : GoodIn wsX6_combine wsX6_isSum := goodIn_r _ [8, 9, 10, 11, 7, 12] (by decide +kernel) (by decide +kernel)
set_option maxRecDepth 20000 in
theorem gX6_combine_X6_isSum : GoodIn wsX6_combine (va_wsS RX6 131 yX6_isSum wsX6_isSum) := goodIn_app (goodIn_of _ (by decide +kernel)) ggX6_combine_X6_isSum
set_option maxRecDepth 20000 in
theorem ggX6_combine_X6_in : GoodIn wsX6_combine wsX6_in := goodIn_r _ [12] (by decide +kernel) (by decide +kernel)
set_option maxRecDepth 20000 in
theorem gX6_combine_X6_in : GoodIn wsX6_combine (va_wsS RX6 75 yX6_in wsX6_in) := goodIn_app (goodIn_of _ (by decide +kernel)) ggX6_combine_X6_in
set_option maxRecDepth 20000 in
theorem ggX6_combine_X6_get : GoodIn wsX6_combine wsX6_get := goodIn_r _ [16, 17, 35, 36, 37, 38, 39, 40, 41, 42, 43, 44, 45, 46, 47, 48, 49, 50, 51, 52, 53, 54, 55] (by decide +kernel) (by decide +kernel)
set_option maxRecDepth 20000 in
theorem gX6_combine_X6_get : GoodIn wsX6_combine (wsV RX6 118 RX6 yX6_get wsX6_get) := goodIn_app (goodIn_of _ (by decide +kernel)) ggX6_combine_X6_get
set_option maxRecDepth 20000 in
theorem ggX6_combine_X6_madeOthers : GoodIn wsX6_combine wsX6_madeOthers := goodIn_r _ [21, 4, 35, 36, 37, 38, 39, 40, 41, 42, 43, 44, 45, 46, 47, 48, 49, 50, 51, 52, 53, 54, 55] (by decide +kernel) (by decide +kernel)
set_option maxRecDepth 20000 in
theorem gX6_combine_X6_madeOthers : GoodIn wsX6_combine (wsV RX6 161 RX6 yX6_madeOthers wsX6_madeOthers) := goodIn_app (goodIn_of _ (by decide +kernel)) ggX6_combine_X6_madeOthers
set_option maxRecDepth 20000 in
theorem ggX6_combine_X6_becomes : GoodIn wsX6_combine wsX6_becomes := goodIn_r _ [25, 4, 26, 27, 28, 17, 10, 11, 7, 12, 29, 30, 31, 32, 33, 34, 35, 36, 37, 38, 39, 40, 41, 42, 43, 44, 45, 46, 47, 48, 49, 50, 51, 52, 53, 54, 55] (by decide +kernel) (by decide +kernel)
set_option maxRecDepth 20000 in
theorem gX6_combine_X6_becomes : GoodIn wsX6_combine (wsV RX6 142 RX6 yX6_becomes wsX6_becomes) := goodIn_app (goodIn_of _ (by decide +kernel)) ggX6_combine_X6_becomes
theorem dX6_combine_0 : decode cX6_combine 0 = .ok (.iload_n 1, 1) := by decide +kernel
theorem dX6_combine_1 : decode cX6_combine 1 = .ok (.invokestatic 131, 3) := by decide +kernel
theorem dX6_combine_4 : decode cX6_combine 4 = .ok (.ifCond .eq 51, 3) := by decide +kernel
theorem dX6_combine_7 : decode cX6_combine 7 = .ok (.iload_n 2, 1) := by decide +kernel
theorem dX6_combine_8 : decode cX6_combine 8 = .ok (.invokestatic 131, 3) := by decide +kernel
theorem dX6_combine_11 : decode cX6_combine 11 = .ok (.ifCond .eq 44, 3) := by decide +kernel
theorem dX6_combine_14 : decode cX6_combine 14 = .ok (.iload 4, 2) := by decide +kernel
theorem dX6_combine_16 : decode cX6_combine 16 = .ok (.invokestatic 131, 3) := by decide +kernel
theorem dX6_combine_19 : decode cX6_combine 19 = .ok (.ifCond .eq 36, 3) := by decide +kernel
theorem dX6_combine_22 : decode cX6_combine 22 = .ok (.iload_n 3, 1) := by decide +kernel
theorem dX6_combine_23 : decode cX6_combine 23 = .ok (.i2l, 1) := by decide +kernel
theorem dX6_combine_24 : decode cX6_combine 24 = .ok (.ldc2_w 164, 3) := by decide +kernel
theorem dX6_combine_27 : decode cX6_combine 27 = .ok (.ldc2_w 166, 3) := by decide +kernel
theorem dX6_combine_30 : decode cX6_combine 30 = .ok (.invokestatic 75, 3) := by decide +kernel
theorem dX6_combine_33 : decode cX6_combine 33 = .ok (.ifCond .eq 22, 3) := by decide +kernel
theorem dX6_combine_36 : decode cX6_combine 36 = .ok (.iload 5, 2) := by decide +kernel
theorem dX6_combine_38 : decode cX6_combine 38 = .ok (.i2l, 1) := by decide +kernel
theorem dX6_combine_39 : decode cX6_combine 39 = .ok (.ldc2_w 164, 3) := by decide +kernel
theorem dX6_combine_42 : decode cX6_combine 42 = .ok (.ldc2_w 166, 3) := by decide +kernel
theorem dX6_combine_45 : decode cX6_combine 45 = .ok (.invokestatic 75, 3) := by decide +kernel
theorem dX6_combine_48 : decode cX6_combine 48 = .ok (.ifCond .eq 7, 3) := by decide +kernel
theorem dX6_combine_51 : decode cX6_combine 51 = .ok (.iconst 1, 1) := by decide +kernel
theorem dX6_combine_52 : decode cX6_combine 52 = .ok (.goto 4, 3) := by decide +kernel
theorem dX6_combine_55 : decode cX6_combine 55 = .ok (.iconst 0, 1) := by decide +kernel
theorem dX6_combine_56 : decode cX6_combine 56 = .ok (.istore 6, 2) := by decide +kernel
theorem dX6_combine_58 : decode cX6_combine 58 = .ok (.iload 6, 2) := by decide +kernel
theorem dX6_combine_60 : decode cX6_combine 60 = .ok (.ifCond .ne 6, 3) := by decide +kernel
theorem dX6_combine_63 : decode cX6_combine 63 = .ok (.ldc 97, 2) := by decide +kernel
theorem dX6_combine_65 : decode cX6_combine 65 = .ok (.ireturn, 1) := by decide +kernel
theorem dX6_combine_66 : decode cX6_combine 66 = .ok (.iconst 0, 1) := by decide +kernel
theorem dX6_combine_67 : decode cX6_combine 67 = .ok (.istore 7, 2) := by decide +kernel
theorem dX6_combine_69 : decode cX6_combine 69 = .ok (.iload 7, 2) := by decide +kernel
theorem dX6_combine_71 : decode cX6_combine 71 = .ok (.bipush 120, 2) := by decide +kernel
theorem dX6_combine_73 : decode cX6_combine 73 = .ok (.if_icmp .ge 41, 3) := by decide +kernel
theorem dX6_combine_76 : decode cX6_combine 76 = .ok (.aload_n 0, 1) := by decide +kernel
theorem dX6_combine_77 : decode cX6_combine 77 = .ok (.getfield 22, 3) := by decide +kernel
theorem dX6_combine_80 : decode cX6_combine 80 = .ok (.iload 7, 2) := by decide +kernel
theorem dX6_combine_82 : decode cX6_combine 82 = .ok (.iload_n 3, 1) := by decide +kernel
theorem dX6_combine_83 : decode cX6_combine 83 = .ok (.i2l, 1) := by decide +kernel
theorem dX6_combine_84 : decode cX6_combine 84 = .ok (.aload_n 0, 1) := by decide +kernel
theorem dX6_combine_85 : decode cX6_combine 85 = .ok (.iload_n 2, 1) := by decide +kernel
theorem dX6_combine_86 : decode cX6_combine 86 = .ok (.iload 7, 2) := by decide +kernel
theorem dX6_combine_88 : decode cX6_combine 88 = .ok (.invokevirtual 118, 3) := by decide +kernel
theorem dX6_combine_91 : decode cX6_combine 91 = .ok (.i2l, 1) := by decide +kernel
theorem dX6_combine_92 : decode cX6_combine 92 = .ok (.lmul, 1) := by decide +kernel
theorem dX6_combine_93 : decode cX6_combine 93 = .ok (.iload 5, 2) := by decide +kernel
theorem dX6_combine_95 : decode cX6_combine 95 = .ok (.i2l, 1) := by decide +kernel
theorem dX6_combine_96 : decode cX6_combine 96 = .ok (.aload_n 0, 1) := by decide +kernel
theorem dX6_combine_97 : decode cX6_combine 97 = .ok (.iload 4, 2) := by decide +kernel
theorem dX6_combine_99 : decode cX6_combine 99 = .ok (.iload 7, 2) := by decide +kernel
theorem dX6_combine_101 : decode cX6_combine 101 = .ok (.invokevirtual 118, 3) := by decide +kernel
theorem dX6_combine_104 : decode cX6_combine 104 = .ok (.i2l, 1) := by decide +kernel
theorem dX6_combine_105 : decode cX6_combine 105 = .ok (.lmul, 1) := by decide +kernel
theorem dX6_combine_106 : decode cX6_combine 106 = .ok (.ladd, 1) := by decide +kernel
theorem dX6_combine_107 : decode cX6_combine 107 = .ok (.lastore, 1) := by decide +kernel
theorem dX6_combine_108 : decode cX6_combine 108 = .ok (.iinc 7 1, 3) := by decide +kernel
theorem dX6_combine_111 : decode cX6_combine 111 = .ok (.goto (-42), 3) := by decide +kernel
theorem dX6_combine_114 : decode cX6_combine 114 = .ok (.aload_n 0, 1) := by decide +kernel
theorem dX6_combine_115 : decode cX6_combine 115 = .ok (.iload_n 1, 1) := by decide +kernel
theorem dX6_combine_116 : decode cX6_combine 116 = .ok (.aload_n 0, 1) := by decide +kernel
theorem dX6_combine_117 : decode cX6_combine 117 = .ok (.invokevirtual 161, 3) := by decide +kernel
theorem dX6_combine_120 : decode cX6_combine 120 = .ok (.invokevirtual 142, 3) := by decide +kernel
theorem dX6_combine_123 : decode cX6_combine 123 = .ok (.ireturn, 1) := by decide +kernel
set_option maxRecDepth 20000 in
theorem ggX6_turned_X6_inverse : GoodIn wsX6_turned wsX6_inverse := goodIn_r _ [6, 1, 7, 8, 9, 5, 10, 11, 12, 13, 14, 15, 16, 17, 18, 19, 20, 21, 22, 23, 24, 25, 26, 27, 28, 29, 30, 31, 32, 33, 34, 35, 36, 37, 38, 39, 40, 41, 42, 43, 44, 45, 46, 47, 48, 49, 50, 51, 52, 53, 54, 55, 56, 57] (by decide +kernel) (by decide +kernel)
set_option maxRecDepth 20000 in
theorem gX6_turned_X6_inverse : GoodIn wsX6_turned (wsV RX6 104 RX6 yX6_inverse wsX6_inverse) := goodIn_app (goodIn_of _ (by decide +kernel)) ggX6_turned_X6_inverse
set_option maxRecDepth 20000 in
theorem ggX6_turned_X6_n : GoodIn wsX6_turned wsX6_n := goodIn_r _ [10, 11, 37, 38, 39, 40, 41, 42, 43, 44, 45, 46, 47, 48, 49, 50, 51, 52, 53, 54, 55, 56, 57] (by decide +kernel) (by decide +kernel)
set_option maxRecDepth 20000 in
theorem gX6_turned_X6_n : GoodIn wsX6_turned (wsV RX6 54 RX6 yX6_n wsX6_n) := goodIn_app (goodIn_of _ (by decide +kernel)) ggX6_turned_X6_n
set_option maxRecDepth 20000 in
theorem ggX6_turned_X6_at : GoodIn wsX6_turned wsX6_at := goodIn_r _ [15, 16, 17, 18, 19, 5, 20, 21, 1, 7, 8, 9, 10, 11, 22, 23, 24, 25, 26, 27, 28, 29, 30, 31, 32, 37, 38, 39, 40, 41, 42, 43, 44, 45, 46, 47, 48, 49, 50, 51, 52, 53, 54, 55, 56, 57] (by decide +kernel) (by decide +kernel)
set_option maxRecDepth 20000 in
theorem gX6_turned_X6_at : GoodIn wsX6_turned (wsV RX6 79 RX6 yX6_at wsX6_at) := goodIn_app (goodIn_of _ (by decide +kernel)) ggX6_turned_X6_at
set_option maxRecDepth 20000 in
theorem ggX6_turned_X6_numberOfWord : GoodIn wsX6_turned wsX6_numberOfWord := goodIn_r _ [36, 1, 7, 8, 9, 5, 10, 11, 37, 38, 39, 40, 41, 42, 43, 44, 45, 46, 47, 48, 49, 50, 51, 52, 53, 54, 55, 56, 57] (by decide +kernel) (by decide +kernel)
set_option maxRecDepth 20000 in
theorem gX6_turned_X6_numberOfWord : GoodIn wsX6_turned (wsV RX6 83 RX6 yX6_numberOfWord wsX6_numberOfWord) := goodIn_app (goodIn_of _ (by decide +kernel)) ggX6_turned_X6_numberOfWord
theorem dX6_turned_0 : decode cX6_turned 0 = .ok (.iload_n 2, 1) := by decide +kernel
theorem dX6_turned_1 : decode cX6_turned 1 = .ok (.ifCond .ne 9, 3) := by decide +kernel
theorem dX6_turned_4 : decode cX6_turned 4 = .ok (.aload_n 0, 1) := by decide +kernel
theorem dX6_turned_5 : decode cX6_turned 5 = .ok (.iload_n 1, 1) := by decide +kernel
theorem dX6_turned_6 : decode cX6_turned 6 = .ok (.invokevirtual 104, 3) := by decide +kernel
theorem dX6_turned_9 : decode cX6_turned 9 = .ok (.ireturn, 1) := by decide +kernel
theorem dX6_turned_10 : decode cX6_turned 10 = .ok (.iconst 0, 1) := by decide +kernel
theorem dX6_turned_11 : decode cX6_turned 11 = .ok (.istore_n 3, 1) := by decide +kernel
theorem dX6_turned_12 : decode cX6_turned 12 = .ok (.iload_n 3, 1) := by decide +kernel
theorem dX6_turned_13 : decode cX6_turned 13 = .ok (.aload_n 0, 1) := by decide +kernel
theorem dX6_turned_14 : decode cX6_turned 14 = .ok (.invokevirtual 54, 3) := by decide +kernel
theorem dX6_turned_17 : decode cX6_turned 17 = .ok (.if_icmp .ge 63, 3) := by decide +kernel
theorem dX6_turned_20 : decode cX6_turned 20 = .ok (.aload_n 0, 1) := by decide +kernel
theorem dX6_turned_21 : decode cX6_turned 21 = .ok (.getfield 16, 3) := by decide +kernel
theorem dX6_turned_24 : decode cX6_turned 24 = .ok (.iload_n 3, 1) := by decide +kernel
theorem dX6_turned_25 : decode cX6_turned 25 = .ok (.iload_n 2, 1) := by decide +kernel
theorem dX6_turned_26 : decode cX6_turned 26 = .ok (.iconst 1, 1) := by decide +kernel
theorem dX6_turned_27 : decode cX6_turned 27 = .ok (.if_icmp .ne 19, 3) := by decide +kernel
theorem dX6_turned_30 : decode cX6_turned 30 = .ok (.aload_n 0, 1) := by decide +kernel
theorem dX6_turned_31 : decode cX6_turned 31 = .ok (.iload_n 1, 1) := by decide +kernel
theorem dX6_turned_32 : decode cX6_turned 32 = .ok (.aload_n 0, 1) := by decide +kernel
theorem dX6_turned_33 : decode cX6_turned 33 = .ok (.invokevirtual 54, 3) := by decide +kernel
theorem dX6_turned_36 : decode cX6_turned 36 = .ok (.iconst 1, 1) := by decide +kernel
theorem dX6_turned_37 : decode cX6_turned 37 = .ok (.isub, 1) := by decide +kernel
theorem dX6_turned_38 : decode cX6_turned 38 = .ok (.iload_n 3, 1) := by decide +kernel
theorem dX6_turned_39 : decode cX6_turned 39 = .ok (.isub, 1) := by decide +kernel
theorem dX6_turned_40 : decode cX6_turned 40 = .ok (.invokevirtual 79, 3) := by decide +kernel
theorem dX6_turned_43 : decode cX6_turned 43 = .ok (.goto 30, 3) := by decide +kernel
theorem dX6_turned_46 : decode cX6_turned 46 = .ok (.iload_n 2, 1) := by decide +kernel
theorem dX6_turned_47 : decode cX6_turned 47 = .ok (.iconst 2, 1) := by decide +kernel
theorem dX6_turned_48 : decode cX6_turned 48 = .ok (.if_icmp .ne 19, 3) := by decide +kernel
theorem dX6_turned_51 : decode cX6_turned 51 = .ok (.aload_n 0, 1) := by decide +kernel
theorem dX6_turned_52 : decode cX6_turned 52 = .ok (.invokevirtual 54, 3) := by decide +kernel
theorem dX6_turned_55 : decode cX6_turned 55 = .ok (.iconst 1, 1) := by decide +kernel
theorem dX6_turned_56 : decode cX6_turned 56 = .ok (.iadd, 1) := by decide +kernel
theorem dX6_turned_57 : decode cX6_turned 57 = .ok (.aload_n 0, 1) := by decide +kernel
theorem dX6_turned_58 : decode cX6_turned 58 = .ok (.iload_n 1, 1) := by decide +kernel
theorem dX6_turned_59 : decode cX6_turned 59 = .ok (.iload_n 3, 1) := by decide +kernel
theorem dX6_turned_60 : decode cX6_turned 60 = .ok (.invokevirtual 79, 3) := by decide +kernel
theorem dX6_turned_63 : decode cX6_turned 63 = .ok (.isub, 1) := by decide +kernel
theorem dX6_turned_64 : decode cX6_turned 64 = .ok (.goto 9, 3) := by decide +kernel
theorem dX6_turned_67 : decode cX6_turned 67 = .ok (.aload_n 0, 1) := by decide +kernel
theorem dX6_turned_68 : decode cX6_turned 68 = .ok (.iload_n 1, 1) := by decide +kernel
theorem dX6_turned_69 : decode cX6_turned 69 = .ok (.iload_n 3, 1) := by decide +kernel
theorem dX6_turned_70 : decode cX6_turned 70 = .ok (.invokevirtual 79, 3) := by decide +kernel
theorem dX6_turned_73 : decode cX6_turned 73 = .ok (.iastore, 1) := by decide +kernel
theorem dX6_turned_74 : decode cX6_turned 74 = .ok (.iinc 3 1, 3) := by decide +kernel
theorem dX6_turned_77 : decode cX6_turned 77 = .ok (.goto (-65), 3) := by decide +kernel
theorem dX6_turned_80 : decode cX6_turned 80 = .ok (.aload_n 0, 1) := by decide +kernel
theorem dX6_turned_81 : decode cX6_turned 81 = .ok (.invokevirtual 83, 3) := by decide +kernel
theorem dX6_turned_84 : decode cX6_turned 84 = .ok (.ireturn, 1) := by decide +kernel
set_option maxRecDepth 20000 in
theorem ggX6_turn_X6_isSum : GoodIn wsX6_turn wsX6_isSum := goodIn_r _ [7, 8, 9, 10, 6, 11] (by decide +kernel) (by decide +kernel)
set_option maxRecDepth 20000 in
theorem gX6_turn_X6_isSum : GoodIn wsX6_turn (va_wsS RX6 131 yX6_isSum wsX6_isSum) := goodIn_app (goodIn_of _ (by decide +kernel)) ggX6_turn_X6_isSum
set_option maxRecDepth 20000 in
theorem ggX6_turn_X6_in : GoodIn wsX6_turn wsX6_in := goodIn_r _ [11] (by decide +kernel) (by decide +kernel)
set_option maxRecDepth 20000 in
theorem gX6_turn_X6_in : GoodIn wsX6_turn (va_wsS RX6 75 yX6_in wsX6_in) := goodIn_app (goodIn_of _ (by decide +kernel)) ggX6_turn_X6_in
set_option maxRecDepth 20000 in
theorem ggX6_turn_X6_empties : GoodIn wsX6_turn wsX6_empties := goodIn_r _ [15, 3, 76, 77, 78, 79, 80, 81, 82, 83, 84, 85, 86, 87, 88, 89, 90, 91, 92, 93, 94, 95, 96] (by decide +kernel) (by decide +kernel)
set_option maxRecDepth 20000 in
theorem gX6_turn_X6_empties : GoodIn wsX6_turn (wsV RX6 155 RX6 yX6_empties wsX6_empties) := goodIn_app (goodIn_of _ (by decide +kernel)) ggX6_turn_X6_empties
set_option maxRecDepth 20000 in
theorem ggX6_turn_X6_orders : GoodIn wsX6_turn wsX6_orders := goodIn_r _ [19, 20, 21, 22, 6, 23, 24, 25, 26, 27, 76, 77, 78, 79, 80, 81, 82, 83, 84, 85, 86, 87, 88, 89, 90, 91, 92, 93, 94, 95, 96] (by decide +kernel) (by decide +kernel)
set_option maxRecDepth 20000 in
theorem gX6_turn_X6_orders : GoodIn wsX6_turn (wsV RX6 65 RX6 yX6_orders wsX6_orders) := goodIn_app (goodIn_of _ (by decide +kernel)) ggX6_turn_X6_orders
set_option maxRecDepth 20000 in
theorem ggX6_turn_X6_turned : GoodIn wsX6_turn wsX6_turned := goodIn_r _ [31, 32, 33, 34, 35, 6, 36, 20, 21, 22, 23, 24, 37, 38, 39, 40, 41, 42, 43, 44, 45, 46, 16, 17, 18, 19, 25, 26, 27, 47, 48, 49, 50, 51, 52, 53, 54, 76, 77, 78, 79, 80, 81, 82, 83, 84, 85, 86, 87, 88, 89, 90, 91, 92, 93, 94, 95, 96] (by decide +kernel) (by decide +kernel)
set_option maxRecDepth 20000 in
theorem gX6_turn_X6_turned : GoodIn wsX6_turn (wsV RX6 170 RX6 yX6_turned wsX6_turned) := goodIn_app (goodIn_of _ (by decide +kernel)) ggX6_turn_X6_turned
set_option maxRecDepth 20000 in
theorem ggX6_turn_X6_inversions : GoodIn wsX6_turn wsX6_inversions := goodIn_r _ [58, 20, 21, 22, 6, 23, 24, 37, 38, 39, 40, 41, 42, 43, 44, 45, 46, 32, 16, 17, 18, 19, 25, 26, 27, 47, 48, 49, 50, 76, 77, 78, 79, 80, 81, 82, 83, 84, 85, 86, 87, 88, 89, 90, 91, 92, 93, 94, 95, 96] (by decide +kernel) (by decide +kernel)
set_option maxRecDepth 20000 in
theorem gX6_turn_X6_inversions : GoodIn wsX6_turn (wsV RX6 101 RX6 yX6_inversions wsX6_inversions) := goodIn_app (goodIn_of _ (by decide +kernel)) ggX6_turn_X6_inversions
set_option maxRecDepth 20000 in
theorem ggX6_turn_X6_get : GoodIn wsX6_turn wsX6_get := goodIn_r _ [62, 24, 76, 77, 78, 79, 80, 81, 82, 83, 84, 85, 86, 87, 88, 89, 90, 91, 92, 93, 94, 95, 96] (by decide +kernel) (by decide +kernel)
set_option maxRecDepth 20000 in
theorem gX6_turn_X6_get : GoodIn wsX6_turn (wsV RX6 118 RX6 yX6_get wsX6_get) := goodIn_app (goodIn_of _ (by decide +kernel)) ggX6_turn_X6_get
set_option maxRecDepth 20000 in
theorem ggX6_turn_X6_becomes : GoodIn wsX6_turn wsX6_becomes := goodIn_r _ [66, 3, 67, 68, 69, 24, 9, 10, 6, 11, 70, 71, 72, 73, 74, 75, 76, 77, 78, 79, 80, 81, 82, 83, 84, 85, 86, 87, 88, 89, 90, 91, 92, 93, 94, 95, 96] (by decide +kernel) (by decide +kernel)
set_option maxRecDepth 20000 in
theorem gX6_turn_X6_becomes : GoodIn wsX6_turn (wsV RX6 142 RX6 yX6_becomes wsX6_becomes) := goodIn_app (goodIn_of _ (by decide +kernel)) ggX6_turn_X6_becomes
theorem dX6_turn_0 : decode cX6_turn 0 = .ok (.iload_n 1, 1) := by decide +kernel
theorem dX6_turn_1 : decode cX6_turn 1 = .ok (.invokestatic 131, 3) := by decide +kernel
theorem dX6_turn_4 : decode cX6_turn 4 = .ok (.ifCond .eq 15, 3) := by decide +kernel
theorem dX6_turn_7 : decode cX6_turn 7 = .ok (.iload_n 2, 1) := by decide +kernel
theorem dX6_turn_8 : decode cX6_turn 8 = .ok (.i2l, 1) := by decide +kernel
theorem dX6_turn_9 : decode cX6_turn 9 = .ok (.lconst 0, 1) := by decide +kernel
theorem dX6_turn_10 : decode cX6_turn 10 = .ok (.ldc2_w 168, 3) := by decide +kernel
theorem dX6_turn_13 : decode cX6_turn 13 = .ok (.invokestatic 75, 3) := by decide +kernel
theorem dX6_turn_16 : decode cX6_turn 16 = .ok (.ifCond .ne 6, 3) := by decide +kernel
theorem dX6_turn_19 : decode cX6_turn 19 = .ok (.ldc 97, 2) := by decide +kernel
theorem dX6_turn_21 : decode cX6_turn 21 = .ok (.ireturn, 1) := by decide +kernel
theorem dX6_turn_22 : decode cX6_turn 22 = .ok (.aload_n 0, 1) := by decide +kernel
theorem dX6_turn_23 : decode cX6_turn 23 = .ok (.invokevirtual 155, 3) := by decide +kernel
theorem dX6_turn_26 : decode cX6_turn 26 = .ok (.iconst 0, 1) := by decide +kernel
theorem dX6_turn_27 : decode cX6_turn 27 = .ok (.istore_n 3, 1) := by decide +kernel
theorem dX6_turn_28 : decode cX6_turn 28 = .ok (.iload_n 3, 1) := by decide +kernel
theorem dX6_turn_29 : decode cX6_turn 29 = .ok (.aload_n 0, 1) := by decide +kernel
theorem dX6_turn_30 : decode cX6_turn 30 = .ok (.invokevirtual 65, 3) := by decide +kernel
theorem dX6_turn_33 : decode cX6_turn 33 = .ok (.if_icmp .ge 54, 3) := by decide +kernel
theorem dX6_turn_36 : decode cX6_turn 36 = .ok (.aload_n 0, 1) := by decide +kernel
theorem dX6_turn_37 : decode cX6_turn 37 = .ok (.getfield 22, 3) := by decide +kernel
theorem dX6_turn_40 : decode cX6_turn 40 = .ok (.aload_n 0, 1) := by decide +kernel
theorem dX6_turn_41 : decode cX6_turn 41 = .ok (.iload_n 3, 1) := by decide +kernel
theorem dX6_turn_42 : decode cX6_turn 42 = .ok (.iload_n 2, 1) := by decide +kernel
theorem dX6_turn_43 : decode cX6_turn 43 = .ok (.invokevirtual 170, 3) := by decide +kernel
theorem dX6_turn_46 : decode cX6_turn 46 = .ok (.iload_n 2, 1) := by decide +kernel
theorem dX6_turn_47 : decode cX6_turn 47 = .ok (.iconst 3, 1) := by decide +kernel
theorem dX6_turn_48 : decode cX6_turn 48 = .ok (.if_icmp .ne 25, 3) := by decide +kernel
theorem dX6_turn_51 : decode cX6_turn 51 = .ok (.aload_n 0, 1) := by decide +kernel
theorem dX6_turn_52 : decode cX6_turn 52 = .ok (.iload_n 3, 1) := by decide +kernel
theorem dX6_turn_53 : decode cX6_turn 53 = .ok (.invokevirtual 101, 3) := by decide +kernel
theorem dX6_turn_56 : decode cX6_turn 56 = .ok (.iconst 2, 1) := by decide +kernel
theorem dX6_turn_57 : decode cX6_turn 57 = .ok (.irem, 1) := by decide +kernel
theorem dX6_turn_58 : decode cX6_turn 58 = .ok (.iconst 1, 1) := by decide +kernel
theorem dX6_turn_59 : decode cX6_turn 59 = .ok (.if_icmp .ne 14, 3) := by decide +kernel
theorem dX6_turn_62 : decode cX6_turn 62 = .ok (.aload_n 0, 1) := by decide +kernel
theorem dX6_turn_63 : decode cX6_turn 63 = .ok (.iload_n 1, 1) := by decide +kernel
theorem dX6_turn_64 : decode cX6_turn 64 = .ok (.iload_n 3, 1) := by decide +kernel
theorem dX6_turn_65 : decode cX6_turn 65 = .ok (.invokevirtual 118, 3) := by decide +kernel
theorem dX6_turn_68 : decode cX6_turn 68 = .ok (.ineg, 1) := by decide +kernel
theorem dX6_turn_69 : decode cX6_turn 69 = .ok (.i2l, 1) := by decide +kernel
theorem dX6_turn_70 : decode cX6_turn 70 = .ok (.goto 10, 3) := by decide +kernel
theorem dX6_turn_73 : decode cX6_turn 73 = .ok (.aload_n 0, 1) := by decide +kernel
theorem dX6_turn_74 : decode cX6_turn 74 = .ok (.iload_n 1, 1) := by decide +kernel
theorem dX6_turn_75 : decode cX6_turn 75 = .ok (.iload_n 3, 1) := by decide +kernel
theorem dX6_turn_76 : decode cX6_turn 76 = .ok (.invokevirtual 118, 3) := by decide +kernel
theorem dX6_turn_79 : decode cX6_turn 79 = .ok (.i2l, 1) := by decide +kernel
theorem dX6_turn_80 : decode cX6_turn 80 = .ok (.lastore, 1) := by decide +kernel
theorem dX6_turn_81 : decode cX6_turn 81 = .ok (.iinc 3 1, 3) := by decide +kernel
theorem dX6_turn_84 : decode cX6_turn 84 = .ok (.goto (-56), 3) := by decide +kernel
theorem dX6_turn_87 : decode cX6_turn 87 = .ok (.iconst 0, 1) := by decide +kernel
theorem dX6_turn_88 : decode cX6_turn 88 = .ok (.istore_n 3, 1) := by decide +kernel
theorem dX6_turn_89 : decode cX6_turn 89 = .ok (.iconst 0, 1) := by decide +kernel
theorem dX6_turn_90 : decode cX6_turn 90 = .ok (.istore 4, 2) := by decide +kernel
theorem dX6_turn_92 : decode cX6_turn 92 = .ok (.iload 4, 2) := by decide +kernel
theorem dX6_turn_94 : decode cX6_turn 94 = .ok (.aload_n 0, 1) := by decide +kernel
theorem dX6_turn_95 : decode cX6_turn 95 = .ok (.invokevirtual 65, 3) := by decide +kernel
theorem dX6_turn_98 : decode cX6_turn 98 = .ok (.if_icmp .ge 36, 3) := by decide +kernel
theorem dX6_turn_101 : decode cX6_turn 101 = .ok (.iload_n 3, 1) := by decide +kernel
theorem dX6_turn_102 : decode cX6_turn 102 = .ok (.aload_n 0, 1) := by decide +kernel
theorem dX6_turn_103 : decode cX6_turn 103 = .ok (.getfield 22, 3) := by decide +kernel
theorem dX6_turn_106 : decode cX6_turn 106 = .ok (.iload 4, 2) := by decide +kernel
theorem dX6_turn_108 : decode cX6_turn 108 = .ok (.laload, 1) := by decide +kernel
theorem dX6_turn_109 : decode cX6_turn 109 = .ok (.aload_n 0, 1) := by decide +kernel
theorem dX6_turn_110 : decode cX6_turn 110 = .ok (.iload_n 1, 1) := by decide +kernel
theorem dX6_turn_111 : decode cX6_turn 111 = .ok (.iload 4, 2) := by decide +kernel
theorem dX6_turn_113 : decode cX6_turn 113 = .ok (.invokevirtual 118, 3) := by decide +kernel
theorem dX6_turn_116 : decode cX6_turn 116 = .ok (.i2l, 1) := by decide +kernel
theorem dX6_turn_117 : decode cX6_turn 117 = .ok (.lcmp, 1) := by decide +kernel
theorem dX6_turn_118 : decode cX6_turn 118 = .ok (.ifCond .ne 7, 3) := by decide +kernel
theorem dX6_turn_121 : decode cX6_turn 121 = .ok (.iconst 0, 1) := by decide +kernel
theorem dX6_turn_122 : decode cX6_turn 122 = .ok (.goto 4, 3) := by decide +kernel
theorem dX6_turn_125 : decode cX6_turn 125 = .ok (.iconst 1, 1) := by decide +kernel
theorem dX6_turn_126 : decode cX6_turn 126 = .ok (.iadd, 1) := by decide +kernel
theorem dX6_turn_127 : decode cX6_turn 127 = .ok (.istore_n 3, 1) := by decide +kernel
theorem dX6_turn_128 : decode cX6_turn 128 = .ok (.iinc 4 1, 3) := by decide +kernel
theorem dX6_turn_131 : decode cX6_turn 131 = .ok (.goto (-39), 3) := by decide +kernel
theorem dX6_turn_134 : decode cX6_turn 134 = .ok (.aload_n 0, 1) := by decide +kernel
theorem dX6_turn_135 : decode cX6_turn 135 = .ok (.iload_n 1, 1) := by decide +kernel
theorem dX6_turn_136 : decode cX6_turn 136 = .ok (.iload_n 3, 1) := by decide +kernel
theorem dX6_turn_137 : decode cX6_turn 137 = .ok (.invokevirtual 142, 3) := by decide +kernel
theorem dX6_turn_140 : decode cX6_turn 140 = .ok (.ireturn, 1) := by decide +kernel
set_option maxRecDepth 20000 in
theorem ggX6_isShuffle_X6_n : GoodIn wsX6_isShuffle wsX6_n := goodIn_r _ [7, 8, 31, 32, 33, 34, 35, 36, 37, 38, 39, 40, 41, 42, 43, 44, 45, 46, 47, 48, 49, 50, 51] (by decide +kernel) (by decide +kernel)
set_option maxRecDepth 20000 in
theorem gX6_isShuffle_X6_n : GoodIn wsX6_isShuffle (wsV RX6 54 RX6 yX6_n wsX6_n) := goodIn_app (goodIn_of _ (by decide +kernel)) ggX6_isShuffle_X6_n
set_option maxRecDepth 20000 in
theorem ggX6_isShuffle_X6_at : GoodIn wsX6_isShuffle wsX6_at := goodIn_r _ [12, 13, 14, 15, 16, 6, 17, 18, 19, 3, 4, 5, 7, 8, 20, 21, 22, 23, 24, 25, 26, 27, 28, 29, 30, 31, 32, 33, 34, 35, 36, 37, 38, 39, 40, 41, 42, 43, 44, 45, 46, 47, 48, 49, 50, 51] (by decide +kernel) (by decide +kernel)
set_option maxRecDepth 20000 in
theorem gX6_isShuffle_X6_at : GoodIn wsX6_isShuffle (wsV RX6 79 RX6 yX6_at wsX6_at) := goodIn_app (goodIn_of _ (by decide +kernel)) ggX6_isShuffle_X6_at
theorem dX6_isShuffle_0 : decode cX6_isShuffle 0 = .ok (.iconst 0, 1) := by decide +kernel
theorem dX6_isShuffle_1 : decode cX6_isShuffle 1 = .ok (.istore_n 3, 1) := by decide +kernel
theorem dX6_isShuffle_2 : decode cX6_isShuffle 2 = .ok (.iconst 0, 1) := by decide +kernel
theorem dX6_isShuffle_3 : decode cX6_isShuffle 3 = .ok (.istore 4, 2) := by decide +kernel
theorem dX6_isShuffle_5 : decode cX6_isShuffle 5 = .ok (.iconst 1, 1) := by decide +kernel
theorem dX6_isShuffle_6 : decode cX6_isShuffle 6 = .ok (.istore 5, 2) := by decide +kernel
theorem dX6_isShuffle_8 : decode cX6_isShuffle 8 = .ok (.iconst 0, 1) := by decide +kernel
theorem dX6_isShuffle_9 : decode cX6_isShuffle 9 = .ok (.istore 6, 2) := by decide +kernel
theorem dX6_isShuffle_11 : decode cX6_isShuffle 11 = .ok (.iload 6, 2) := by decide +kernel
theorem dX6_isShuffle_13 : decode cX6_isShuffle 13 = .ok (.aload_n 0, 1) := by decide +kernel
theorem dX6_isShuffle_14 : decode cX6_isShuffle 14 = .ok (.invokevirtual 54, 3) := by decide +kernel
theorem dX6_isShuffle_17 : decode cX6_isShuffle 17 = .ok (.if_icmp .ge 77, 3) := by decide +kernel
theorem dX6_isShuffle_20 : decode cX6_isShuffle 20 = .ok (.iload 5, 2) := by decide +kernel
theorem dX6_isShuffle_22 : decode cX6_isShuffle 22 = .ok (.ifCond .eq 72, 3) := by decide +kernel
theorem dX6_isShuffle_25 : decode cX6_isShuffle 25 = .ok (.aload_n 0, 1) := by decide +kernel
theorem dX6_isShuffle_26 : decode cX6_isShuffle 26 = .ok (.iload_n 1, 1) := by decide +kernel
theorem dX6_isShuffle_27 : decode cX6_isShuffle 27 = .ok (.iload 6, 2) := by decide +kernel
theorem dX6_isShuffle_29 : decode cX6_isShuffle 29 = .ok (.invokevirtual 79, 3) := by decide +kernel
theorem dX6_isShuffle_32 : decode cX6_isShuffle 32 = .ok (.istore 7, 2) := by decide +kernel
theorem dX6_isShuffle_34 : decode cX6_isShuffle 34 = .ok (.iload 7, 2) := by decide +kernel
theorem dX6_isShuffle_36 : decode cX6_isShuffle 36 = .ok (.iload_n 2, 1) := by decide +kernel
theorem dX6_isShuffle_37 : decode cX6_isShuffle 37 = .ok (.if_icmp .gt 27, 3) := by decide +kernel
theorem dX6_isShuffle_40 : decode cX6_isShuffle 40 = .ok (.iload 7, 2) := by decide +kernel
theorem dX6_isShuffle_42 : decode cX6_isShuffle 42 = .ok (.aload_n 0, 1) := by decide +kernel
theorem dX6_isShuffle_43 : decode cX6_isShuffle 43 = .ok (.getfield 26, 3) := by decide +kernel
theorem dX6_isShuffle_46 : decode cX6_isShuffle 46 = .ok (.iload_n 3, 1) := by decide +kernel
theorem dX6_isShuffle_47 : decode cX6_isShuffle 47 = .ok (.iaload, 1) := by decide +kernel
theorem dX6_isShuffle_48 : decode cX6_isShuffle 48 = .ok (.if_icmp .ne 7, 3) := by decide +kernel
theorem dX6_isShuffle_51 : decode cX6_isShuffle 51 = .ok (.iconst 1, 1) := by decide +kernel
theorem dX6_isShuffle_52 : decode cX6_isShuffle 52 = .ok (.goto 4, 3) := by decide +kernel
theorem dX6_isShuffle_55 : decode cX6_isShuffle 55 = .ok (.iconst 0, 1) := by decide +kernel
theorem dX6_isShuffle_56 : decode cX6_isShuffle 56 = .ok (.istore 5, 2) := by decide +kernel
theorem dX6_isShuffle_58 : decode cX6_isShuffle 58 = .ok (.iinc 3 1, 3) := by decide +kernel
theorem dX6_isShuffle_61 : decode cX6_isShuffle 61 = .ok (.goto 27, 3) := by decide +kernel
theorem dX6_isShuffle_64 : decode cX6_isShuffle 64 = .ok (.iload 7, 2) := by decide +kernel
theorem dX6_isShuffle_66 : decode cX6_isShuffle 66 = .ok (.iload_n 2, 1) := by decide +kernel
theorem dX6_isShuffle_67 : decode cX6_isShuffle 67 = .ok (.isub, 1) := by decide +kernel
theorem dX6_isShuffle_68 : decode cX6_isShuffle 68 = .ok (.aload_n 0, 1) := by decide +kernel
theorem dX6_isShuffle_69 : decode cX6_isShuffle 69 = .ok (.getfield 29, 3) := by decide +kernel
theorem dX6_isShuffle_72 : decode cX6_isShuffle 72 = .ok (.iload 4, 2) := by decide +kernel
theorem dX6_isShuffle_74 : decode cX6_isShuffle 74 = .ok (.iaload, 1) := by decide +kernel
theorem dX6_isShuffle_75 : decode cX6_isShuffle 75 = .ok (.if_icmp .ne 7, 3) := by decide +kernel
theorem dX6_isShuffle_78 : decode cX6_isShuffle 78 = .ok (.iconst 1, 1) := by decide +kernel
theorem dX6_isShuffle_79 : decode cX6_isShuffle 79 = .ok (.goto 4, 3) := by decide +kernel
theorem dX6_isShuffle_82 : decode cX6_isShuffle 82 = .ok (.iconst 0, 1) := by decide +kernel
theorem dX6_isShuffle_83 : decode cX6_isShuffle 83 = .ok (.istore 5, 2) := by decide +kernel
theorem dX6_isShuffle_85 : decode cX6_isShuffle 85 = .ok (.iinc 4 1, 3) := by decide +kernel
theorem dX6_isShuffle_88 : decode cX6_isShuffle 88 = .ok (.iinc 6 1, 3) := by decide +kernel
theorem dX6_isShuffle_91 : decode cX6_isShuffle 91 = .ok (.goto (-80), 3) := by decide +kernel
theorem dX6_isShuffle_94 : decode cX6_isShuffle 94 = .ok (.iload 5, 2) := by decide +kernel
theorem dX6_isShuffle_96 : decode cX6_isShuffle 96 = .ok (.ireturn, 1) := by decide +kernel
set_option maxRecDepth 20000 in
theorem ggX6_shuffle_X6_isSum : GoodIn wsX6_shuffle wsX6_isSum := goodIn_r _ [9, 10, 11, 12, 8, 13] (by decide +kernel) (by decide +kernel)
set_option maxRecDepth 20000 in
theorem gX6_shuffle_X6_isSum : GoodIn wsX6_shuffle (va_wsS RX6 131 yX6_isSum wsX6_isSum) := goodIn_app (goodIn_of _ (by decide +kernel)) ggX6_shuffle_X6_isSum
set_option maxRecDepth 20000 in
theorem ggX6_shuffle_X6_n : GoodIn wsX6_shuffle wsX6_n := goodIn_r _ [17, 18, 65, 66, 67, 68, 69, 70, 71, 72, 73, 74, 75, 76, 77, 78, 79, 80, 81, 82, 83, 84, 85] (by decide +kernel) (by decide +kernel)
set_option maxRecDepth 20000 in
theorem gX6_shuffle_X6_n : GoodIn wsX6_shuffle (wsV RX6 54 RX6 yX6_n wsX6_n) := goodIn_app (goodIn_of _ (by decide +kernel)) ggX6_shuffle_X6_n
set_option maxRecDepth 20000 in
theorem ggX6_shuffle_X6_in : GoodIn wsX6_shuffle wsX6_in := goodIn_r _ [13] (by decide +kernel) (by decide +kernel)
set_option maxRecDepth 20000 in
theorem gX6_shuffle_X6_in : GoodIn wsX6_shuffle (va_wsS RX6 75 yX6_in wsX6_in) := goodIn_app (goodIn_of _ (by decide +kernel)) ggX6_shuffle_X6_in
set_option maxRecDepth 20000 in
theorem ggX6_shuffle_X6_ordersOf : GoodIn wsX6_shuffle wsX6_ordersOf := goodIn_r _ [21] (by decide +kernel) (by decide +kernel)
set_option maxRecDepth 20000 in
theorem gX6_shuffle_X6_ordersOf : GoodIn wsX6_shuffle (va_wsS RX6 58 yX6_ordersOf wsX6_ordersOf) := goodIn_app (goodIn_of _ (by decide +kernel)) ggX6_shuffle_X6_ordersOf
set_option maxRecDepth 20000 in
theorem ggX6_shuffle_X6_layWord : GoodIn wsX6_shuffle wsX6_layWord := goodIn_r _ [25, 3, 19, 20, 8, 21, 65, 66, 67, 68, 69, 70, 71, 72, 73, 74, 75, 76, 77, 78, 79, 80, 81, 82, 83, 84, 85] (by decide +kernel) (by decide +kernel)
set_option maxRecDepth 20000 in
theorem gX6_shuffle_X6_layWord : GoodIn wsX6_shuffle (wsV RX6 68 RX6 yX6_layWord wsX6_layWord) := goodIn_app (goodIn_of _ (by decide +kernel)) ggX6_shuffle_X6_layWord
set_option maxRecDepth 20000 in
theorem ggX6_shuffle_X6_begins : GoodIn wsX6_shuffle wsX6_begins := goodIn_r _ [29, 5, 30, 31, 32, 8, 33, 18, 65, 66, 67, 68, 69, 70, 71, 72, 73, 74, 75, 76, 77, 78, 79, 80, 81, 82, 83, 84, 85] (by decide +kernel) (by decide +kernel)
set_option maxRecDepth 20000 in
theorem gX6_shuffle_X6_begins : GoodIn wsX6_shuffle (wsV RX6 138 RX6 yX6_begins wsX6_begins) := goodIn_app (goodIn_of _ (by decide +kernel)) ggX6_shuffle_X6_begins
set_option maxRecDepth 20000 in
theorem ggX6_shuffle_X6_orders : GoodIn wsX6_shuffle wsX6_orders := goodIn_r _ [37, 14, 15, 16, 8, 17, 18, 19, 20, 21, 65, 66, 67, 68, 69, 70, 71, 72, 73, 74, 75, 76, 77, 78, 79, 80, 81, 82, 83, 84, 85] (by decide +kernel) (by decide +kernel)
set_option maxRecDepth 20000 in
theorem gX6_shuffle_X6_orders : GoodIn wsX6_shuffle (wsV RX6 65 RX6 yX6_orders wsX6_orders) := goodIn_app (goodIn_of _ (by decide +kernel)) ggX6_shuffle_X6_orders
set_option maxRecDepth 20000 in
theorem ggX6_shuffle_X6_isShuffle : GoodIn wsX6_shuffle wsX6_isShuffle := goodIn_r _ [41, 2, 4, 14, 15, 16, 8, 17, 18, 42, 43, 44, 45, 46, 47, 48, 49, 50, 51, 3, 34, 35, 36, 37, 19, 20, 21, 22, 23, 24, 25, 65, 66, 67, 68, 69, 70, 71, 72, 73, 74, 75, 76, 77, 78, 79, 80, 81, 82, 83, 84, 85] (by decide +kernel) (by decide +kernel)
set_option maxRecDepth 20000 in
theorem gX6_shuffle_X6_isShuffle : GoodIn wsX6_shuffle (wsV RX6 173 RX6 yX6_isShuffle wsX6_isShuffle) := goodIn_app (goodIn_of _ (by decide +kernel)) ggX6_shuffle_X6_isShuffle
set_option maxRecDepth 20000 in
theorem ggX6_shuffle_X6_becomes : GoodIn wsX6_shuffle wsX6_becomes := goodIn_r _ [55, 5, 56, 57, 58, 18, 11, 12, 8, 13, 59, 60, 61, 62, 63, 64, 65, 66, 67, 68, 69, 70, 71, 72, 73, 74, 75, 76, 77, 78, 79, 80, 81, 82, 83, 84, 85] (by decide +kernel) (by decide +kernel)
set_option maxRecDepth 20000 in
theorem gX6_shuffle_X6_becomes : GoodIn wsX6_shuffle (wsV RX6 142 RX6 yX6_becomes wsX6_becomes) := goodIn_app (goodIn_of _ (by decide +kernel)) ggX6_shuffle_X6_becomes
theorem dX6_shuffle_0 : decode cX6_shuffle 0 = .ok (.iload_n 1, 1) := by decide +kernel
theorem dX6_shuffle_1 : decode cX6_shuffle 1 = .ok (.invokestatic 131, 3) := by decide +kernel
theorem dX6_shuffle_4 : decode cX6_shuffle 4 = .ok (.ifCond .eq 57, 3) := by decide +kernel
theorem dX6_shuffle_7 : decode cX6_shuffle 7 = .ok (.iload_n 2, 1) := by decide +kernel
theorem dX6_shuffle_8 : decode cX6_shuffle 8 = .ok (.i2l, 1) := by decide +kernel
theorem dX6_shuffle_9 : decode cX6_shuffle 9 = .ok (.lconst 1, 1) := by decide +kernel
theorem dX6_shuffle_10 : decode cX6_shuffle 10 = .ok (.aload_n 0, 1) := by decide +kernel
theorem dX6_shuffle_11 : decode cX6_shuffle 11 = .ok (.invokevirtual 54, 3) := by decide +kernel
theorem dX6_shuffle_14 : decode cX6_shuffle 14 = .ok (.i2l, 1) := by decide +kernel
theorem dX6_shuffle_15 : decode cX6_shuffle 15 = .ok (.lconst 1, 1) := by decide +kernel
theorem dX6_shuffle_16 : decode cX6_shuffle 16 = .ok (.lsub, 1) := by decide +kernel
theorem dX6_shuffle_17 : decode cX6_shuffle 17 = .ok (.invokestatic 75, 3) := by decide +kernel
theorem dX6_shuffle_20 : decode cX6_shuffle 20 = .ok (.ifCond .eq 41, 3) := by decide +kernel
theorem dX6_shuffle_23 : decode cX6_shuffle 23 = .ok (.iload_n 3, 1) := by decide +kernel
theorem dX6_shuffle_24 : decode cX6_shuffle 24 = .ok (.i2l, 1) := by decide +kernel
theorem dX6_shuffle_25 : decode cX6_shuffle 25 = .ok (.lconst 0, 1) := by decide +kernel
theorem dX6_shuffle_26 : decode cX6_shuffle 26 = .ok (.iload_n 2, 1) := by decide +kernel
theorem dX6_shuffle_27 : decode cX6_shuffle 27 = .ok (.invokestatic 58, 3) := by decide +kernel
theorem dX6_shuffle_30 : decode cX6_shuffle 30 = .ok (.iconst 1, 1) := by decide +kernel
theorem dX6_shuffle_31 : decode cX6_shuffle 31 = .ok (.isub, 1) := by decide +kernel
theorem dX6_shuffle_32 : decode cX6_shuffle 32 = .ok (.i2l, 1) := by decide +kernel
theorem dX6_shuffle_33 : decode cX6_shuffle 33 = .ok (.invokestatic 75, 3) := by decide +kernel
theorem dX6_shuffle_36 : decode cX6_shuffle 36 = .ok (.ifCond .eq 25, 3) := by decide +kernel
theorem dX6_shuffle_39 : decode cX6_shuffle 39 = .ok (.iload 4, 2) := by decide +kernel
theorem dX6_shuffle_41 : decode cX6_shuffle 41 = .ok (.i2l, 1) := by decide +kernel
theorem dX6_shuffle_42 : decode cX6_shuffle 42 = .ok (.lconst 0, 1) := by decide +kernel
theorem dX6_shuffle_43 : decode cX6_shuffle 43 = .ok (.aload_n 0, 1) := by decide +kernel
theorem dX6_shuffle_44 : decode cX6_shuffle 44 = .ok (.invokevirtual 54, 3) := by decide +kernel
theorem dX6_shuffle_47 : decode cX6_shuffle 47 = .ok (.iload_n 2, 1) := by decide +kernel
theorem dX6_shuffle_48 : decode cX6_shuffle 48 = .ok (.isub, 1) := by decide +kernel
theorem dX6_shuffle_49 : decode cX6_shuffle 49 = .ok (.invokestatic 58, 3) := by decide +kernel
theorem dX6_shuffle_52 : decode cX6_shuffle 52 = .ok (.iconst 1, 1) := by decide +kernel
theorem dX6_shuffle_53 : decode cX6_shuffle 53 = .ok (.isub, 1) := by decide +kernel
theorem dX6_shuffle_54 : decode cX6_shuffle 54 = .ok (.i2l, 1) := by decide +kernel
theorem dX6_shuffle_55 : decode cX6_shuffle 55 = .ok (.invokestatic 75, 3) := by decide +kernel
theorem dX6_shuffle_58 : decode cX6_shuffle 58 = .ok (.ifCond .ne 6, 3) := by decide +kernel
theorem dX6_shuffle_61 : decode cX6_shuffle 61 = .ok (.ldc 97, 2) := by decide +kernel
theorem dX6_shuffle_63 : decode cX6_shuffle 63 = .ok (.ireturn, 1) := by decide +kernel
theorem dX6_shuffle_64 : decode cX6_shuffle 64 = .ok (.aload_n 0, 1) := by decide +kernel
theorem dX6_shuffle_65 : decode cX6_shuffle 65 = .ok (.iload_n 3, 1) := by decide +kernel
theorem dX6_shuffle_66 : decode cX6_shuffle 66 = .ok (.iload_n 2, 1) := by decide +kernel
theorem dX6_shuffle_67 : decode cX6_shuffle 67 = .ok (.invokevirtual 68, 3) := by decide +kernel
theorem dX6_shuffle_70 : decode cX6_shuffle 70 = .ok (.iconst 0, 1) := by decide +kernel
theorem dX6_shuffle_71 : decode cX6_shuffle 71 = .ok (.istore 5, 2) := by decide +kernel
theorem dX6_shuffle_73 : decode cX6_shuffle 73 = .ok (.iload 5, 2) := by decide +kernel
theorem dX6_shuffle_75 : decode cX6_shuffle 75 = .ok (.iload_n 2, 1) := by decide +kernel
theorem dX6_shuffle_76 : decode cX6_shuffle 76 = .ok (.if_icmp .ge 23, 3) := by decide +kernel
theorem dX6_shuffle_79 : decode cX6_shuffle 79 = .ok (.aload_n 0, 1) := by decide +kernel
theorem dX6_shuffle_80 : decode cX6_shuffle 80 = .ok (.getfield 26, 3) := by decide +kernel
theorem dX6_shuffle_83 : decode cX6_shuffle 83 = .ok (.iload 5, 2) := by decide +kernel
theorem dX6_shuffle_85 : decode cX6_shuffle 85 = .ok (.aload_n 0, 1) := by decide +kernel
theorem dX6_shuffle_86 : decode cX6_shuffle 86 = .ok (.getfield 16, 3) := by decide +kernel
theorem dX6_shuffle_89 : decode cX6_shuffle 89 = .ok (.iload 5, 2) := by decide +kernel
theorem dX6_shuffle_91 : decode cX6_shuffle 91 = .ok (.iaload, 1) := by decide +kernel
theorem dX6_shuffle_92 : decode cX6_shuffle 92 = .ok (.iastore, 1) := by decide +kernel
theorem dX6_shuffle_93 : decode cX6_shuffle 93 = .ok (.iinc 5 1, 3) := by decide +kernel
theorem dX6_shuffle_96 : decode cX6_shuffle 96 = .ok (.goto (-23), 3) := by decide +kernel
theorem dX6_shuffle_99 : decode cX6_shuffle 99 = .ok (.aload_n 0, 1) := by decide +kernel
theorem dX6_shuffle_100 : decode cX6_shuffle 100 = .ok (.iload 4, 2) := by decide +kernel
theorem dX6_shuffle_102 : decode cX6_shuffle 102 = .ok (.aload_n 0, 1) := by decide +kernel
theorem dX6_shuffle_103 : decode cX6_shuffle 103 = .ok (.invokevirtual 54, 3) := by decide +kernel
theorem dX6_shuffle_106 : decode cX6_shuffle 106 = .ok (.iload_n 2, 1) := by decide +kernel
theorem dX6_shuffle_107 : decode cX6_shuffle 107 = .ok (.isub, 1) := by decide +kernel
theorem dX6_shuffle_108 : decode cX6_shuffle 108 = .ok (.invokevirtual 68, 3) := by decide +kernel
theorem dX6_shuffle_111 : decode cX6_shuffle 111 = .ok (.iconst 0, 1) := by decide +kernel
theorem dX6_shuffle_112 : decode cX6_shuffle 112 = .ok (.istore 5, 2) := by decide +kernel
theorem dX6_shuffle_114 : decode cX6_shuffle 114 = .ok (.iload 5, 2) := by decide +kernel
theorem dX6_shuffle_116 : decode cX6_shuffle 116 = .ok (.aload_n 0, 1) := by decide +kernel
theorem dX6_shuffle_117 : decode cX6_shuffle 117 = .ok (.invokevirtual 54, 3) := by decide +kernel
theorem dX6_shuffle_120 : decode cX6_shuffle 120 = .ok (.iload_n 2, 1) := by decide +kernel
theorem dX6_shuffle_121 : decode cX6_shuffle 121 = .ok (.isub, 1) := by decide +kernel
theorem dX6_shuffle_122 : decode cX6_shuffle 122 = .ok (.if_icmp .ge 23, 3) := by decide +kernel
theorem dX6_shuffle_125 : decode cX6_shuffle 125 = .ok (.aload_n 0, 1) := by decide +kernel
theorem dX6_shuffle_126 : decode cX6_shuffle 126 = .ok (.getfield 29, 3) := by decide +kernel
theorem dX6_shuffle_129 : decode cX6_shuffle 129 = .ok (.iload 5, 2) := by decide +kernel
theorem dX6_shuffle_131 : decode cX6_shuffle 131 = .ok (.aload_n 0, 1) := by decide +kernel
theorem dX6_shuffle_132 : decode cX6_shuffle 132 = .ok (.getfield 16, 3) := by decide +kernel
theorem dX6_shuffle_135 : decode cX6_shuffle 135 = .ok (.iload 5, 2) := by decide +kernel
theorem dX6_shuffle_137 : decode cX6_shuffle 137 = .ok (.iaload, 1) := by decide +kernel
theorem dX6_shuffle_138 : decode cX6_shuffle 138 = .ok (.iastore, 1) := by decide +kernel
theorem dX6_shuffle_139 : decode cX6_shuffle 139 = .ok (.iinc 5 1, 3) := by decide +kernel
theorem dX6_shuffle_142 : decode cX6_shuffle 142 = .ok (.goto (-28), 3) := by decide +kernel
theorem dX6_shuffle_145 : decode cX6_shuffle 145 = .ok (.aload_n 0, 1) := by decide +kernel
theorem dX6_shuffle_146 : decode cX6_shuffle 146 = .ok (.iload_n 1, 1) := by decide +kernel
theorem dX6_shuffle_147 : decode cX6_shuffle 147 = .ok (.invokevirtual 138, 3) := by decide +kernel
theorem dX6_shuffle_150 : decode cX6_shuffle 150 = .ok (.iconst 0, 1) := by decide +kernel
theorem dX6_shuffle_151 : decode cX6_shuffle 151 = .ok (.istore 5, 2) := by decide +kernel
theorem dX6_shuffle_153 : decode cX6_shuffle 153 = .ok (.iconst 0, 1) := by decide +kernel
theorem dX6_shuffle_154 : decode cX6_shuffle 154 = .ok (.istore 6, 2) := by decide +kernel
theorem dX6_shuffle_156 : decode cX6_shuffle 156 = .ok (.iload 6, 2) := by decide +kernel
theorem dX6_shuffle_158 : decode cX6_shuffle 158 = .ok (.aload_n 0, 1) := by decide +kernel
theorem dX6_shuffle_159 : decode cX6_shuffle 159 = .ok (.invokevirtual 65, 3) := by decide +kernel
theorem dX6_shuffle_162 : decode cX6_shuffle 162 = .ok (.if_icmp .ge 33, 3) := by decide +kernel
theorem dX6_shuffle_165 : decode cX6_shuffle 165 = .ok (.aload_n 0, 1) := by decide +kernel
theorem dX6_shuffle_166 : decode cX6_shuffle 166 = .ok (.iload 6, 2) := by decide +kernel
theorem dX6_shuffle_168 : decode cX6_shuffle 168 = .ok (.iload_n 2, 1) := by decide +kernel
theorem dX6_shuffle_169 : decode cX6_shuffle 169 = .ok (.invokevirtual 173, 3) := by decide +kernel
theorem dX6_shuffle_172 : decode cX6_shuffle 172 = .ok (.ifCond .eq 17, 3) := by decide +kernel
theorem dX6_shuffle_175 : decode cX6_shuffle 175 = .ok (.aload_n 0, 1) := by decide +kernel
theorem dX6_shuffle_176 : decode cX6_shuffle 176 = .ok (.getfield 22, 3) := by decide +kernel
theorem dX6_shuffle_179 : decode cX6_shuffle 179 = .ok (.iload 6, 2) := by decide +kernel
theorem dX6_shuffle_181 : decode cX6_shuffle 181 = .ok (.dup2, 1) := by decide +kernel
theorem dX6_shuffle_182 : decode cX6_shuffle 182 = .ok (.laload, 1) := by decide +kernel
theorem dX6_shuffle_183 : decode cX6_shuffle 183 = .ok (.lconst 1, 1) := by decide +kernel
theorem dX6_shuffle_184 : decode cX6_shuffle 184 = .ok (.ladd, 1) := by decide +kernel
theorem dX6_shuffle_185 : decode cX6_shuffle 185 = .ok (.lastore, 1) := by decide +kernel
theorem dX6_shuffle_186 : decode cX6_shuffle 186 = .ok (.iinc 5 1, 3) := by decide +kernel
theorem dX6_shuffle_189 : decode cX6_shuffle 189 = .ok (.iinc 6 1, 3) := by decide +kernel
theorem dX6_shuffle_192 : decode cX6_shuffle 192 = .ok (.goto (-36), 3) := by decide +kernel
theorem dX6_shuffle_195 : decode cX6_shuffle 195 = .ok (.aload_n 0, 1) := by decide +kernel
theorem dX6_shuffle_196 : decode cX6_shuffle 196 = .ok (.iload_n 1, 1) := by decide +kernel
theorem dX6_shuffle_197 : decode cX6_shuffle 197 = .ok (.iload 5, 2) := by decide +kernel
theorem dX6_shuffle_199 : decode cX6_shuffle 199 = .ok (.invokevirtual 142, 3) := by decide +kernel
theorem dX6_shuffle_202 : decode cX6_shuffle 202 = .ok (.ireturn, 1) := by decide +kernel
set_option maxRecDepth 20000 in
theorem ggX6_factor_X6_isSum : GoodIn wsX6_factor wsX6_isSum := goodIn_r _ [5, 6, 7, 8, 4, 9] (by decide +kernel) (by decide +kernel)
set_option maxRecDepth 20000 in
theorem gX6_factor_X6_isSum : GoodIn wsX6_factor (va_wsS RX6 131 yX6_isSum wsX6_isSum) := goodIn_app (goodIn_of _ (by decide +kernel)) ggX6_factor_X6_isSum
set_option maxRecDepth 20000 in
theorem ggX6_factor_X6_isOrder : GoodIn wsX6_factor wsX6_isOrder := goodIn_r _ [13, 14, 15, 16, 4, 17, 18, 19, 20, 21, 22, 23, 24, 25, 7, 8, 9, 30, 31, 32, 33, 34, 35, 36, 37, 38, 39, 40, 41, 42, 43, 44, 45, 46, 47, 48, 49, 50] (by decide +kernel) (by decide +kernel)
set_option maxRecDepth 20000 in
theorem gX6_factor_X6_isOrder : GoodIn wsX6_factor (wsV RX6 89 RX6 yX6_isOrder wsX6_isOrder) := goodIn_app (goodIn_of _ (by decide +kernel)) ggX6_factor_X6_isOrder
set_option maxRecDepth 20000 in
theorem ggX6_factor_X6_get : GoodIn wsX6_factor wsX6_get := goodIn_r _ [29, 22, 30, 31, 32, 33, 34, 35, 36, 37, 38, 39, 40, 41, 42, 43, 44, 45, 46, 47, 48, 49, 50] (by decide +kernel) (by decide +kernel)
set_option maxRecDepth 20000 in
theorem gX6_factor_X6_get : GoodIn wsX6_factor (wsV RX6 118 RX6 yX6_get wsX6_get) := goodIn_app (goodIn_of _ (by decide +kernel)) ggX6_factor_X6_get
theorem dX6_factor_0 : decode cX6_factor 0 = .ok (.iload_n 1, 1) := by decide +kernel
theorem dX6_factor_1 : decode cX6_factor 1 = .ok (.invokestatic 131, 3) := by decide +kernel
theorem dX6_factor_4 : decode cX6_factor 4 = .ok (.ifCond .eq 20, 3) := by decide +kernel
theorem dX6_factor_7 : decode cX6_factor 7 = .ok (.aload_n 0, 1) := by decide +kernel
theorem dX6_factor_8 : decode cX6_factor 8 = .ok (.iload_n 2, 1) := by decide +kernel
theorem dX6_factor_9 : decode cX6_factor 9 = .ok (.invokevirtual 89, 3) := by decide +kernel
theorem dX6_factor_12 : decode cX6_factor 12 = .ok (.ifCond .eq 12, 3) := by decide +kernel
theorem dX6_factor_15 : decode cX6_factor 15 = .ok (.aload_n 0, 1) := by decide +kernel
theorem dX6_factor_16 : decode cX6_factor 16 = .ok (.iload_n 1, 1) := by decide +kernel
theorem dX6_factor_17 : decode cX6_factor 17 = .ok (.iload_n 2, 1) := by decide +kernel
theorem dX6_factor_18 : decode cX6_factor 18 = .ok (.invokevirtual 118, 3) := by decide +kernel
theorem dX6_factor_21 : decode cX6_factor 21 = .ok (.goto 5, 3) := by decide +kernel
theorem dX6_factor_24 : decode cX6_factor 24 = .ok (.ldc 97, 2) := by decide +kernel
theorem dX6_factor_26 : decode cX6_factor 26 = .ok (.ireturn, 1) := by decide +kernel
set_option maxRecDepth 20000 in
theorem ggX6_termOf_X6_isSum : GoodIn wsX6_termOf wsX6_isSum := goodIn_r _ [6, 7, 8, 9, 5, 10] (by decide +kernel) (by decide +kernel)
set_option maxRecDepth 20000 in
theorem gX6_termOf_X6_isSum : GoodIn wsX6_termOf (va_wsS RX6 131 yX6_isSum wsX6_isSum) := goodIn_app (goodIn_of _ (by decide +kernel)) ggX6_termOf_X6_isSum
set_option maxRecDepth 20000 in
theorem ggX6_termOf_X6_in : GoodIn wsX6_termOf wsX6_in := goodIn_r _ [10] (by decide +kernel) (by decide +kernel)
set_option maxRecDepth 20000 in
theorem gX6_termOf_X6_in : GoodIn wsX6_termOf (va_wsS RX6 75 yX6_in wsX6_in) := goodIn_app (goodIn_of _ (by decide +kernel)) ggX6_termOf_X6_in
set_option maxRecDepth 20000 in
theorem ggX6_termOf_X6_orders : GoodIn wsX6_termOf wsX6_orders := goodIn_r _ [14, 15, 16, 17, 5, 18, 19, 20, 21, 22, 27, 28, 29, 30, 31, 32, 33, 34, 35, 36, 37, 38, 39, 40, 41, 42, 43, 44, 45, 46, 47] (by decide +kernel) (by decide +kernel)
set_option maxRecDepth 20000 in
theorem gX6_termOf_X6_orders : GoodIn wsX6_termOf (wsV RX6 65 RX6 yX6_orders wsX6_orders) := goodIn_app (goodIn_of _ (by decide +kernel)) ggX6_termOf_X6_orders
set_option maxRecDepth 20000 in
theorem ggX6_termOf_X6_get : GoodIn wsX6_termOf wsX6_get := goodIn_r _ [26, 19, 27, 28, 29, 30, 31, 32, 33, 34, 35, 36, 37, 38, 39, 40, 41, 42, 43, 44, 45, 46, 47] (by decide +kernel) (by decide +kernel)
set_option maxRecDepth 20000 in
theorem gX6_termOf_X6_get : GoodIn wsX6_termOf (wsV RX6 118 RX6 yX6_get wsX6_get) := goodIn_app (goodIn_of _ (by decide +kernel)) ggX6_termOf_X6_get
theorem dX6_termOf_0 : decode cX6_termOf 0 = .ok (.iload_n 1, 1) := by decide +kernel
theorem dX6_termOf_1 : decode cX6_termOf 1 = .ok (.invokestatic 131, 3) := by decide +kernel
theorem dX6_termOf_4 : decode cX6_termOf 4 = .ok (.ifCond .eq 17, 3) := by decide +kernel
theorem dX6_termOf_7 : decode cX6_termOf 7 = .ok (.iload_n 2, 1) := by decide +kernel
theorem dX6_termOf_8 : decode cX6_termOf 8 = .ok (.ifCond .lt 13, 3) := by decide +kernel
theorem dX6_termOf_11 : decode cX6_termOf 11 = .ok (.iload_n 3, 1) := by decide +kernel
theorem dX6_termOf_12 : decode cX6_termOf 12 = .ok (.i2l, 1) := by decide +kernel
theorem dX6_termOf_13 : decode cX6_termOf 13 = .ok (.lconst 0, 1) := by decide +kernel
theorem dX6_termOf_14 : decode cX6_termOf 14 = .ok (.lconst 1, 1) := by decide +kernel
theorem dX6_termOf_15 : decode cX6_termOf 15 = .ok (.invokestatic 75, 3) := by decide +kernel
theorem dX6_termOf_18 : decode cX6_termOf 18 = .ok (.ifCond .ne 6, 3) := by decide +kernel
theorem dX6_termOf_21 : decode cX6_termOf 21 = .ok (.ldc 97, 2) := by decide +kernel
theorem dX6_termOf_23 : decode cX6_termOf 23 = .ok (.ireturn, 1) := by decide +kernel
theorem dX6_termOf_24 : decode cX6_termOf 24 = .ok (.iload_n 2, 1) := by decide +kernel
theorem dX6_termOf_25 : decode cX6_termOf 25 = .ok (.istore 4, 2) := by decide +kernel
theorem dX6_termOf_27 : decode cX6_termOf 27 = .ok (.iconst 0, 1) := by decide +kernel
theorem dX6_termOf_28 : decode cX6_termOf 28 = .ok (.istore 5, 2) := by decide +kernel
theorem dX6_termOf_30 : decode cX6_termOf 30 = .ok (.iload 5, 2) := by decide +kernel
theorem dX6_termOf_32 : decode cX6_termOf 32 = .ok (.aload_n 0, 1) := by decide +kernel
theorem dX6_termOf_33 : decode cX6_termOf 33 = .ok (.invokevirtual 65, 3) := by decide +kernel
theorem dX6_termOf_36 : decode cX6_termOf 36 = .ok (.if_icmp .ge 44, 3) := by decide +kernel
theorem dX6_termOf_39 : decode cX6_termOf 39 = .ok (.aload_n 0, 1) := by decide +kernel
theorem dX6_termOf_40 : decode cX6_termOf 40 = .ok (.iload_n 1, 1) := by decide +kernel
theorem dX6_termOf_41 : decode cX6_termOf 41 = .ok (.iload 5, 2) := by decide +kernel
theorem dX6_termOf_43 : decode cX6_termOf 43 = .ok (.invokevirtual 118, 3) := by decide +kernel
theorem dX6_termOf_46 : decode cX6_termOf 46 = .ok (.ifCond .eq 28, 3) := by decide +kernel
theorem dX6_termOf_49 : decode cX6_termOf 49 = .ok (.iload 4, 2) := by decide +kernel
theorem dX6_termOf_51 : decode cX6_termOf 51 = .ok (.ifCond .ne 20, 3) := by decide +kernel
theorem dX6_termOf_54 : decode cX6_termOf 54 = .ok (.iload_n 3, 1) := by decide +kernel
theorem dX6_termOf_55 : decode cX6_termOf 55 = .ok (.ifCond .ne 8, 3) := by decide +kernel
theorem dX6_termOf_58 : decode cX6_termOf 58 = .ok (.iload 5, 2) := by decide +kernel
theorem dX6_termOf_60 : decode cX6_termOf 60 = .ok (.goto 10, 3) := by decide +kernel
theorem dX6_termOf_63 : decode cX6_termOf 63 = .ok (.aload_n 0, 1) := by decide +kernel
theorem dX6_termOf_64 : decode cX6_termOf 64 = .ok (.iload_n 1, 1) := by decide +kernel
theorem dX6_termOf_65 : decode cX6_termOf 65 = .ok (.iload 5, 2) := by decide +kernel
theorem dX6_termOf_67 : decode cX6_termOf 67 = .ok (.invokevirtual 118, 3) := by decide +kernel
theorem dX6_termOf_70 : decode cX6_termOf 70 = .ok (.ireturn, 1) := by decide +kernel
theorem dX6_termOf_71 : decode cX6_termOf 71 = .ok (.iinc 4 (-1), 3) := by decide +kernel
theorem dX6_termOf_74 : decode cX6_termOf 74 = .ok (.iinc 5 1, 3) := by decide +kernel
theorem dX6_termOf_77 : decode cX6_termOf 77 = .ok (.goto (-47), 3) := by decide +kernel
theorem dX6_termOf_80 : decode cX6_termOf 80 = .ok (.ldc 177, 2) := by decide +kernel
theorem dX6_termOf_82 : decode cX6_termOf 82 = .ok (.ireturn, 1) := by decide +kernel
set_option maxRecDepth 20000 in
theorem ggX6_goesByDescents_X6_orders : GoodIn wsX6_goesByDescents wsX6_orders := goodIn_r _ [8, 9, 10, 11, 7, 12, 13, 14, 15, 16, 36, 37, 38, 39, 40, 41, 42, 43, 44, 45, 46, 47, 48, 49, 50, 51, 52, 53, 54, 55, 56] (by decide +kernel) (by decide +kernel)
set_option maxRecDepth 20000 in
theorem gX6_goesByDescents_X6_orders : GoodIn wsX6_goesByDescents (wsV RX6 65 RX6 yX6_orders wsX6_orders) := goodIn_app (goodIn_of _ (by decide +kernel)) ggX6_goesByDescents_X6_orders
set_option maxRecDepth 20000 in
theorem ggX6_goesByDescents_X6_descents : GoodIn wsX6_goesByDescents wsX6_descents := goodIn_r _ [20, 9, 10, 11, 7, 12, 13, 21, 22, 23, 24, 25, 26, 27, 28, 29, 30, 31, 4, 5, 6, 8, 14, 15, 16, 32, 33, 34, 35, 36, 37, 38, 39, 40, 41, 42, 43, 44, 45, 46, 47, 48, 49, 50, 51, 52, 53, 54, 55, 56] (by decide +kernel) (by decide +kernel)
set_option maxRecDepth 20000 in
theorem gX6_goesByDescents_X6_descents : GoodIn wsX6_goesByDescents (wsV RX6 86 RX6 yX6_descents wsX6_descents) := goodIn_app (goodIn_of _ (by decide +kernel)) ggX6_goesByDescents_X6_descents
theorem dX6_goesByDescents_0 : decode cX6_goesByDescents 0 = .ok (.iconst 1, 1) := by decide +kernel
theorem dX6_goesByDescents_1 : decode cX6_goesByDescents 1 = .ok (.istore_n 1, 1) := by decide +kernel
theorem dX6_goesByDescents_2 : decode cX6_goesByDescents 2 = .ok (.iconst 0, 1) := by decide +kernel
theorem dX6_goesByDescents_3 : decode cX6_goesByDescents 3 = .ok (.istore_n 2, 1) := by decide +kernel
theorem dX6_goesByDescents_4 : decode cX6_goesByDescents 4 = .ok (.iload_n 2, 1) := by decide +kernel
theorem dX6_goesByDescents_5 : decode cX6_goesByDescents 5 = .ok (.bipush 16, 2) := by decide +kernel
theorem dX6_goesByDescents_7 : decode cX6_goesByDescents 7 = .ok (.if_icmp .ge 23, 3) := by decide +kernel
theorem dX6_goesByDescents_10 : decode cX6_goesByDescents 10 = .ok (.aload_n 0, 1) := by decide +kernel
theorem dX6_goesByDescents_11 : decode cX6_goesByDescents 11 = .ok (.getfield 35, 3) := by decide +kernel
theorem dX6_goesByDescents_14 : decode cX6_goesByDescents 14 = .ok (.iload_n 2, 1) := by decide +kernel
theorem dX6_goesByDescents_15 : decode cX6_goesByDescents 15 = .ok (.iconst 0, 1) := by decide +kernel
theorem dX6_goesByDescents_16 : decode cX6_goesByDescents 16 = .ok (.iastore, 1) := by decide +kernel
theorem dX6_goesByDescents_17 : decode cX6_goesByDescents 17 = .ok (.aload_n 0, 1) := by decide +kernel
theorem dX6_goesByDescents_18 : decode cX6_goesByDescents 18 = .ok (.getfield 32, 3) := by decide +kernel
theorem dX6_goesByDescents_21 : decode cX6_goesByDescents 21 = .ok (.iload_n 2, 1) := by decide +kernel
theorem dX6_goesByDescents_22 : decode cX6_goesByDescents 22 = .ok (.lconst 0, 1) := by decide +kernel
theorem dX6_goesByDescents_23 : decode cX6_goesByDescents 23 = .ok (.lastore, 1) := by decide +kernel
theorem dX6_goesByDescents_24 : decode cX6_goesByDescents 24 = .ok (.iinc 2 1, 3) := by decide +kernel
theorem dX6_goesByDescents_27 : decode cX6_goesByDescents 27 = .ok (.goto (-23), 3) := by decide +kernel
theorem dX6_goesByDescents_30 : decode cX6_goesByDescents 30 = .ok (.iconst 0, 1) := by decide +kernel
theorem dX6_goesByDescents_31 : decode cX6_goesByDescents 31 = .ok (.istore_n 2, 1) := by decide +kernel
theorem dX6_goesByDescents_32 : decode cX6_goesByDescents 32 = .ok (.iload_n 2, 1) := by decide +kernel
theorem dX6_goesByDescents_33 : decode cX6_goesByDescents 33 = .ok (.aload_n 0, 1) := by decide +kernel
theorem dX6_goesByDescents_34 : decode cX6_goesByDescents 34 = .ok (.invokevirtual 65, 3) := by decide +kernel
theorem dX6_goesByDescents_37 : decode cX6_goesByDescents 37 = .ok (.if_icmp .ge 69, 3) := by decide +kernel
theorem dX6_goesByDescents_40 : decode cX6_goesByDescents 40 = .ok (.aload_n 0, 1) := by decide +kernel
theorem dX6_goesByDescents_41 : decode cX6_goesByDescents 41 = .ok (.iload_n 2, 1) := by decide +kernel
theorem dX6_goesByDescents_42 : decode cX6_goesByDescents 42 = .ok (.invokevirtual 86, 3) := by decide +kernel
theorem dX6_goesByDescents_45 : decode cX6_goesByDescents 45 = .ok (.istore_n 3, 1) := by decide +kernel
theorem dX6_goesByDescents_46 : decode cX6_goesByDescents 46 = .ok (.iload_n 1, 1) := by decide +kernel
theorem dX6_goesByDescents_47 : decode cX6_goesByDescents 47 = .ok (.ifCond .eq 32, 3) := by decide +kernel
theorem dX6_goesByDescents_50 : decode cX6_goesByDescents 50 = .ok (.aload_n 0, 1) := by decide +kernel
theorem dX6_goesByDescents_51 : decode cX6_goesByDescents 51 = .ok (.getfield 35, 3) := by decide +kernel
theorem dX6_goesByDescents_54 : decode cX6_goesByDescents 54 = .ok (.iload_n 3, 1) := by decide +kernel
theorem dX6_goesByDescents_55 : decode cX6_goesByDescents 55 = .ok (.iaload, 1) := by decide +kernel
theorem dX6_goesByDescents_56 : decode cX6_goesByDescents 56 = .ok (.ifCond .eq 19, 3) := by decide +kernel
theorem dX6_goesByDescents_59 : decode cX6_goesByDescents 59 = .ok (.aload_n 0, 1) := by decide +kernel
theorem dX6_goesByDescents_60 : decode cX6_goesByDescents 60 = .ok (.getfield 32, 3) := by decide +kernel
theorem dX6_goesByDescents_63 : decode cX6_goesByDescents 63 = .ok (.iload_n 3, 1) := by decide +kernel
theorem dX6_goesByDescents_64 : decode cX6_goesByDescents 64 = .ok (.laload, 1) := by decide +kernel
theorem dX6_goesByDescents_65 : decode cX6_goesByDescents 65 = .ok (.aload_n 0, 1) := by decide +kernel
theorem dX6_goesByDescents_66 : decode cX6_goesByDescents 66 = .ok (.getfield 22, 3) := by decide +kernel
theorem dX6_goesByDescents_69 : decode cX6_goesByDescents 69 = .ok (.iload_n 2, 1) := by decide +kernel
theorem dX6_goesByDescents_70 : decode cX6_goesByDescents 70 = .ok (.laload, 1) := by decide +kernel
theorem dX6_goesByDescents_71 : decode cX6_goesByDescents 71 = .ok (.lcmp, 1) := by decide +kernel
theorem dX6_goesByDescents_72 : decode cX6_goesByDescents 72 = .ok (.ifCond .ne 7, 3) := by decide +kernel
theorem dX6_goesByDescents_75 : decode cX6_goesByDescents 75 = .ok (.iconst 1, 1) := by decide +kernel
theorem dX6_goesByDescents_76 : decode cX6_goesByDescents 76 = .ok (.goto 4, 3) := by decide +kernel
theorem dX6_goesByDescents_79 : decode cX6_goesByDescents 79 = .ok (.iconst 0, 1) := by decide +kernel
theorem dX6_goesByDescents_80 : decode cX6_goesByDescents 80 = .ok (.istore_n 1, 1) := by decide +kernel
theorem dX6_goesByDescents_81 : decode cX6_goesByDescents 81 = .ok (.aload_n 0, 1) := by decide +kernel
theorem dX6_goesByDescents_82 : decode cX6_goesByDescents 82 = .ok (.getfield 35, 3) := by decide +kernel
theorem dX6_goesByDescents_85 : decode cX6_goesByDescents 85 = .ok (.iload_n 3, 1) := by decide +kernel
theorem dX6_goesByDescents_86 : decode cX6_goesByDescents 86 = .ok (.iconst 1, 1) := by decide +kernel
theorem dX6_goesByDescents_87 : decode cX6_goesByDescents 87 = .ok (.iastore, 1) := by decide +kernel
theorem dX6_goesByDescents_88 : decode cX6_goesByDescents 88 = .ok (.aload_n 0, 1) := by decide +kernel
theorem dX6_goesByDescents_89 : decode cX6_goesByDescents 89 = .ok (.getfield 32, 3) := by decide +kernel
theorem dX6_goesByDescents_92 : decode cX6_goesByDescents 92 = .ok (.iload_n 3, 1) := by decide +kernel
theorem dX6_goesByDescents_93 : decode cX6_goesByDescents 93 = .ok (.aload_n 0, 1) := by decide +kernel
theorem dX6_goesByDescents_94 : decode cX6_goesByDescents 94 = .ok (.getfield 22, 3) := by decide +kernel
theorem dX6_goesByDescents_97 : decode cX6_goesByDescents 97 = .ok (.iload_n 2, 1) := by decide +kernel
theorem dX6_goesByDescents_98 : decode cX6_goesByDescents 98 = .ok (.laload, 1) := by decide +kernel
theorem dX6_goesByDescents_99 : decode cX6_goesByDescents 99 = .ok (.lastore, 1) := by decide +kernel
theorem dX6_goesByDescents_100 : decode cX6_goesByDescents 100 = .ok (.iinc 2 1, 3) := by decide +kernel
theorem dX6_goesByDescents_103 : decode cX6_goesByDescents 103 = .ok (.goto (-71), 3) := by decide +kernel
theorem dX6_goesByDescents_106 : decode cX6_goesByDescents 106 = .ok (.iload_n 1, 1) := by decide +kernel
theorem dX6_goesByDescents_107 : decode cX6_goesByDescents 107 = .ok (.ireturn, 1) := by decide +kernel
theorem dX6_bits_0 : decode cX6_bits 0 = .ok (.iconst 0, 1) := by decide +kernel
theorem dX6_bits_1 : decode cX6_bits 1 = .ok (.istore_n 1, 1) := by decide +kernel
theorem dX6_bits_2 : decode cX6_bits 2 = .ok (.iload_n 0, 1) := by decide +kernel
theorem dX6_bits_3 : decode cX6_bits 3 = .ok (.istore_n 2, 1) := by decide +kernel
theorem dX6_bits_4 : decode cX6_bits 4 = .ok (.iload_n 2, 1) := by decide +kernel
theorem dX6_bits_5 : decode cX6_bits 5 = .ok (.ifCond .le 16, 3) := by decide +kernel
theorem dX6_bits_8 : decode cX6_bits 8 = .ok (.iload_n 1, 1) := by decide +kernel
theorem dX6_bits_9 : decode cX6_bits 9 = .ok (.iload_n 2, 1) := by decide +kernel
theorem dX6_bits_10 : decode cX6_bits 10 = .ok (.iconst 1, 1) := by decide +kernel
theorem dX6_bits_11 : decode cX6_bits 11 = .ok (.iand, 1) := by decide +kernel
theorem dX6_bits_12 : decode cX6_bits 12 = .ok (.iadd, 1) := by decide +kernel
theorem dX6_bits_13 : decode cX6_bits 13 = .ok (.istore_n 1, 1) := by decide +kernel
theorem dX6_bits_14 : decode cX6_bits 14 = .ok (.iload_n 2, 1) := by decide +kernel
theorem dX6_bits_15 : decode cX6_bits 15 = .ok (.iconst 1, 1) := by decide +kernel
theorem dX6_bits_16 : decode cX6_bits 16 = .ok (.ishr, 1) := by decide +kernel
theorem dX6_bits_17 : decode cX6_bits 17 = .ok (.istore_n 2, 1) := by decide +kernel
theorem dX6_bits_18 : decode cX6_bits 18 = .ok (.goto (-14), 3) := by decide +kernel
theorem dX6_bits_21 : decode cX6_bits 21 = .ok (.iload_n 1, 1) := by decide +kernel
theorem dX6_bits_22 : decode cX6_bits 22 = .ok (.ireturn, 1) := by decide +kernel
set_option maxRecDepth 20000 in
theorem ggX6_wideFactor_X6_n : GoodIn wsX6_wideFactor wsX6_n := goodIn_r _ [6, 7, 11, 12, 13, 14, 15, 16, 17, 18, 19, 20, 21, 22, 23, 24, 25, 26, 27, 28, 29, 30, 31] (by decide +kernel) (by decide +kernel)
set_option maxRecDepth 20000 in
theorem gX6_wideFactor_X6_n : GoodIn wsX6_wideFactor (wsV RX6 54 RX6 yX6_n wsX6_n) := goodIn_app (goodIn_of _ (by decide +kernel)) ggX6_wideFactor_X6_n
set_option maxRecDepth 20000 in
theorem ggX6_wideFactor_X6_bits : GoodIn wsX6_wideFactor wsX6_bits := goodIn_r _ [10] (by decide +kernel) (by decide +kernel)
set_option maxRecDepth 20000 in
theorem gX6_wideFactor_X6_bits : GoodIn wsX6_wideFactor (va_wsS RX6 178 yX6_bits wsX6_bits) := goodIn_app (goodIn_of _ (by decide +kernel)) ggX6_wideFactor_X6_bits
theorem dX6_wideFactor_0 : decode cX6_wideFactor 0 = .ok (.lconst 0, 1) := by decide +kernel
theorem dX6_wideFactor_1 : decode cX6_wideFactor 1 = .ok (.lstore_n 2, 1) := by decide +kernel
theorem dX6_wideFactor_2 : decode cX6_wideFactor 2 = .ok (.iload_n 1, 1) := by decide +kernel
theorem dX6_wideFactor_3 : decode cX6_wideFactor 3 = .ok (.istore 4, 2) := by decide +kernel
theorem dX6_wideFactor_5 : decode cX6_wideFactor 5 = .ok (.iload 4, 2) := by decide +kernel
theorem dX6_wideFactor_7 : decode cX6_wideFactor 7 = .ok (.iconst 1, 1) := by decide +kernel
theorem dX6_wideFactor_8 : decode cX6_wideFactor 8 = .ok (.aload_n 0, 1) := by decide +kernel
theorem dX6_wideFactor_9 : decode cX6_wideFactor 9 = .ok (.invokevirtual 54, 3) := by decide +kernel
theorem dX6_wideFactor_12 : decode cX6_wideFactor 12 = .ok (.iconst 1, 1) := by decide +kernel
theorem dX6_wideFactor_13 : decode cX6_wideFactor 13 = .ok (.isub, 1) := by decide +kernel
theorem dX6_wideFactor_14 : decode cX6_wideFactor 14 = .ok (.ishl, 1) := by decide +kernel
theorem dX6_wideFactor_15 : decode cX6_wideFactor 15 = .ok (.if_icmp .ge 52, 3) := by decide +kernel
theorem dX6_wideFactor_18 : decode cX6_wideFactor 18 = .ok (.iload 4, 2) := by decide +kernel
theorem dX6_wideFactor_20 : decode cX6_wideFactor 20 = .ok (.iload_n 1, 1) := by decide +kernel
theorem dX6_wideFactor_21 : decode cX6_wideFactor 21 = .ok (.iand, 1) := by decide +kernel
theorem dX6_wideFactor_22 : decode cX6_wideFactor 22 = .ok (.iload_n 1, 1) := by decide +kernel
theorem dX6_wideFactor_23 : decode cX6_wideFactor 23 = .ok (.if_icmp .ne 38, 3) := by decide +kernel
theorem dX6_wideFactor_26 : decode cX6_wideFactor 26 = .ok (.lload_n 2, 1) := by decide +kernel
theorem dX6_wideFactor_27 : decode cX6_wideFactor 27 = .ok (.iload 4, 2) := by decide +kernel
theorem dX6_wideFactor_29 : decode cX6_wideFactor 29 = .ok (.iload_n 1, 1) := by decide +kernel
theorem dX6_wideFactor_30 : decode cX6_wideFactor 30 = .ok (.iconst (-1), 1) := by decide +kernel
theorem dX6_wideFactor_31 : decode cX6_wideFactor 31 = .ok (.ixor, 1) := by decide +kernel
theorem dX6_wideFactor_32 : decode cX6_wideFactor 32 = .ok (.iand, 1) := by decide +kernel
theorem dX6_wideFactor_33 : decode cX6_wideFactor 33 = .ok (.invokestatic 178, 3) := by decide +kernel
theorem dX6_wideFactor_36 : decode cX6_wideFactor 36 = .ok (.iconst 2, 1) := by decide +kernel
theorem dX6_wideFactor_37 : decode cX6_wideFactor 37 = .ok (.irem, 1) := by decide +kernel
theorem dX6_wideFactor_38 : decode cX6_wideFactor 38 = .ok (.ifCond .ne 13, 3) := by decide +kernel
theorem dX6_wideFactor_41 : decode cX6_wideFactor 41 = .ok (.aload_n 0, 1) := by decide +kernel
theorem dX6_wideFactor_42 : decode cX6_wideFactor 42 = .ok (.getfield 32, 3) := by decide +kernel
theorem dX6_wideFactor_45 : decode cX6_wideFactor 45 = .ok (.iload 4, 2) := by decide +kernel
theorem dX6_wideFactor_47 : decode cX6_wideFactor 47 = .ok (.laload, 1) := by decide +kernel
theorem dX6_wideFactor_48 : decode cX6_wideFactor 48 = .ok (.goto 11, 3) := by decide +kernel
theorem dX6_wideFactor_51 : decode cX6_wideFactor 51 = .ok (.aload_n 0, 1) := by decide +kernel
theorem dX6_wideFactor_52 : decode cX6_wideFactor 52 = .ok (.getfield 32, 3) := by decide +kernel
theorem dX6_wideFactor_55 : decode cX6_wideFactor 55 = .ok (.iload 4, 2) := by decide +kernel
theorem dX6_wideFactor_57 : decode cX6_wideFactor 57 = .ok (.laload, 1) := by decide +kernel
theorem dX6_wideFactor_58 : decode cX6_wideFactor 58 = .ok (.lneg, 1) := by decide +kernel
theorem dX6_wideFactor_59 : decode cX6_wideFactor 59 = .ok (.ladd, 1) := by decide +kernel
theorem dX6_wideFactor_60 : decode cX6_wideFactor 60 = .ok (.lstore_n 2, 1) := by decide +kernel
theorem dX6_wideFactor_61 : decode cX6_wideFactor 61 = .ok (.iinc 4 1, 3) := by decide +kernel
theorem dX6_wideFactor_64 : decode cX6_wideFactor 64 = .ok (.goto (-59), 3) := by decide +kernel
theorem dX6_wideFactor_67 : decode cX6_wideFactor 67 = .ok (.lload_n 2, 1) := by decide +kernel
theorem dX6_wideFactor_68 : decode cX6_wideFactor 68 = .ok (.l2i, 1) := by decide +kernel
theorem dX6_wideFactor_69 : decode cX6_wideFactor 69 = .ok (.ireturn, 1) := by decide +kernel
set_option maxRecDepth 20000 in
theorem ggX6_sumOfFactors_X6_orders : GoodIn wsX6_sumOfFactors wsX6_orders := goodIn_r _ [5, 6, 7, 8, 4, 9, 10, 11, 12, 13, 18, 19, 20, 21, 22, 23, 24, 25, 26, 27, 28, 29, 30, 31, 32, 33, 34, 35, 36, 37, 38] (by decide +kernel) (by decide +kernel)
set_option maxRecDepth 20000 in
theorem gX6_sumOfFactors_X6_orders : GoodIn wsX6_sumOfFactors (wsV RX6 65 RX6 yX6_orders wsX6_orders) := goodIn_app (goodIn_of _ (by decide +kernel)) ggX6_sumOfFactors_X6_orders
set_option maxRecDepth 20000 in
theorem ggX6_sumOfFactors_X6_get : GoodIn wsX6_sumOfFactors wsX6_get := goodIn_r _ [17, 10, 18, 19, 20, 21, 22, 23, 24, 25, 26, 27, 28, 29, 30, 31, 32, 33, 34, 35, 36, 37, 38] (by decide +kernel) (by decide +kernel)
set_option maxRecDepth 20000 in
theorem gX6_sumOfFactors_X6_get : GoodIn wsX6_sumOfFactors (wsV RX6 118 RX6 yX6_get wsX6_get) := goodIn_app (goodIn_of _ (by decide +kernel)) ggX6_sumOfFactors_X6_get
theorem dX6_sumOfFactors_0 : decode cX6_sumOfFactors 0 = .ok (.iconst 0, 1) := by decide +kernel
theorem dX6_sumOfFactors_1 : decode cX6_sumOfFactors 1 = .ok (.istore_n 2, 1) := by decide +kernel
theorem dX6_sumOfFactors_2 : decode cX6_sumOfFactors 2 = .ok (.iconst 0, 1) := by decide +kernel
theorem dX6_sumOfFactors_3 : decode cX6_sumOfFactors 3 = .ok (.istore_n 3, 1) := by decide +kernel
theorem dX6_sumOfFactors_4 : decode cX6_sumOfFactors 4 = .ok (.iload_n 3, 1) := by decide +kernel
theorem dX6_sumOfFactors_5 : decode cX6_sumOfFactors 5 = .ok (.aload_n 0, 1) := by decide +kernel
theorem dX6_sumOfFactors_6 : decode cX6_sumOfFactors 6 = .ok (.invokevirtual 65, 3) := by decide +kernel
theorem dX6_sumOfFactors_9 : decode cX6_sumOfFactors 9 = .ok (.if_icmp .ge 18, 3) := by decide +kernel
theorem dX6_sumOfFactors_12 : decode cX6_sumOfFactors 12 = .ok (.iload_n 2, 1) := by decide +kernel
theorem dX6_sumOfFactors_13 : decode cX6_sumOfFactors 13 = .ok (.aload_n 0, 1) := by decide +kernel
theorem dX6_sumOfFactors_14 : decode cX6_sumOfFactors 14 = .ok (.iload_n 1, 1) := by decide +kernel
theorem dX6_sumOfFactors_15 : decode cX6_sumOfFactors 15 = .ok (.iload_n 3, 1) := by decide +kernel
theorem dX6_sumOfFactors_16 : decode cX6_sumOfFactors 16 = .ok (.invokevirtual 118, 3) := by decide +kernel
theorem dX6_sumOfFactors_19 : decode cX6_sumOfFactors 19 = .ok (.iadd, 1) := by decide +kernel
theorem dX6_sumOfFactors_20 : decode cX6_sumOfFactors 20 = .ok (.istore_n 2, 1) := by decide +kernel
theorem dX6_sumOfFactors_21 : decode cX6_sumOfFactors 21 = .ok (.iinc 3 1, 3) := by decide +kernel
theorem dX6_sumOfFactors_24 : decode cX6_sumOfFactors 24 = .ok (.goto (-20), 3) := by decide +kernel
theorem dX6_sumOfFactors_27 : decode cX6_sumOfFactors 27 = .ok (.iload_n 2, 1) := by decide +kernel
theorem dX6_sumOfFactors_28 : decode cX6_sumOfFactors 28 = .ok (.ireturn, 1) := by decide +kernel
set_option maxRecDepth 20000 in
theorem ggX6_greatest_X6_get : GoodIn wsX6_greatest wsX6_get := goodIn_r _ [5, 6, 18, 19, 20, 21, 22, 23, 24, 25, 26, 27, 28, 29, 30, 31, 32, 33, 34, 35, 36, 37, 38] (by decide +kernel) (by decide +kernel)
set_option maxRecDepth 20000 in
theorem gX6_greatest_X6_get : GoodIn wsX6_greatest (wsV RX6 118 RX6 yX6_get wsX6_get) := goodIn_app (goodIn_of _ (by decide +kernel)) ggX6_greatest_X6_get
set_option maxRecDepth 20000 in
theorem ggX6_greatest_X6_orders : GoodIn wsX6_greatest wsX6_orders := goodIn_r _ [10, 11, 12, 13, 4, 14, 6, 15, 16, 17, 18, 19, 20, 21, 22, 23, 24, 25, 26, 27, 28, 29, 30, 31, 32, 33, 34, 35, 36, 37, 38] (by decide +kernel) (by decide +kernel)
set_option maxRecDepth 20000 in
theorem gX6_greatest_X6_orders : GoodIn wsX6_greatest (wsV RX6 65 RX6 yX6_orders wsX6_orders) := goodIn_app (goodIn_of _ (by decide +kernel)) ggX6_greatest_X6_orders
theorem dX6_greatest_0 : decode cX6_greatest 0 = .ok (.iload_n 2, 1) := by decide +kernel
theorem dX6_greatest_1 : decode cX6_greatest 1 = .ok (.aload_n 0, 1) := by decide +kernel
theorem dX6_greatest_2 : decode cX6_greatest 2 = .ok (.iload_n 1, 1) := by decide +kernel
theorem dX6_greatest_3 : decode cX6_greatest 3 = .ok (.iconst 0, 1) := by decide +kernel
theorem dX6_greatest_4 : decode cX6_greatest 4 = .ok (.invokevirtual 118, 3) := by decide +kernel
theorem dX6_greatest_7 : decode cX6_greatest 7 = .ok (.imul, 1) := by decide +kernel
theorem dX6_greatest_8 : decode cX6_greatest 8 = .ok (.istore_n 3, 1) := by decide +kernel
theorem dX6_greatest_9 : decode cX6_greatest 9 = .ok (.iconst 1, 1) := by decide +kernel
theorem dX6_greatest_10 : decode cX6_greatest 10 = .ok (.istore 4, 2) := by decide +kernel
theorem dX6_greatest_12 : decode cX6_greatest 12 = .ok (.iload 4, 2) := by decide +kernel
theorem dX6_greatest_14 : decode cX6_greatest 14 = .ok (.aload_n 0, 1) := by decide +kernel
theorem dX6_greatest_15 : decode cX6_greatest 15 = .ok (.invokevirtual 65, 3) := by decide +kernel
theorem dX6_greatest_18 : decode cX6_greatest 18 = .ok (.if_icmp .ge 36, 3) := by decide +kernel
theorem dX6_greatest_21 : decode cX6_greatest 21 = .ok (.iload_n 2, 1) := by decide +kernel
theorem dX6_greatest_22 : decode cX6_greatest 22 = .ok (.aload_n 0, 1) := by decide +kernel
theorem dX6_greatest_23 : decode cX6_greatest 23 = .ok (.iload_n 1, 1) := by decide +kernel
theorem dX6_greatest_24 : decode cX6_greatest 24 = .ok (.iload 4, 2) := by decide +kernel
theorem dX6_greatest_26 : decode cX6_greatest 26 = .ok (.invokevirtual 118, 3) := by decide +kernel
theorem dX6_greatest_29 : decode cX6_greatest 29 = .ok (.imul, 1) := by decide +kernel
theorem dX6_greatest_30 : decode cX6_greatest 30 = .ok (.iload_n 3, 1) := by decide +kernel
theorem dX6_greatest_31 : decode cX6_greatest 31 = .ok (.if_icmp .le 15, 3) := by decide +kernel
theorem dX6_greatest_34 : decode cX6_greatest 34 = .ok (.iload_n 2, 1) := by decide +kernel
theorem dX6_greatest_35 : decode cX6_greatest 35 = .ok (.aload_n 0, 1) := by decide +kernel
theorem dX6_greatest_36 : decode cX6_greatest 36 = .ok (.iload_n 1, 1) := by decide +kernel
theorem dX6_greatest_37 : decode cX6_greatest 37 = .ok (.iload 4, 2) := by decide +kernel
theorem dX6_greatest_39 : decode cX6_greatest 39 = .ok (.invokevirtual 118, 3) := by decide +kernel
theorem dX6_greatest_42 : decode cX6_greatest 42 = .ok (.imul, 1) := by decide +kernel
theorem dX6_greatest_43 : decode cX6_greatest 43 = .ok (.goto 4, 3) := by decide +kernel
theorem dX6_greatest_46 : decode cX6_greatest 46 = .ok (.iload_n 3, 1) := by decide +kernel
theorem dX6_greatest_47 : decode cX6_greatest 47 = .ok (.istore_n 3, 1) := by decide +kernel
theorem dX6_greatest_48 : decode cX6_greatest 48 = .ok (.iinc 4 1, 3) := by decide +kernel
theorem dX6_greatest_51 : decode cX6_greatest 51 = .ok (.goto (-39), 3) := by decide +kernel
theorem dX6_greatest_54 : decode cX6_greatest 54 = .ok (.iload_n 2, 1) := by decide +kernel
theorem dX6_greatest_55 : decode cX6_greatest 55 = .ok (.iload_n 3, 1) := by decide +kernel
theorem dX6_greatest_56 : decode cX6_greatest 56 = .ok (.imul, 1) := by decide +kernel
theorem dX6_greatest_57 : decode cX6_greatest 57 = .ok (.ireturn, 1) := by decide +kernel
set_option maxRecDepth 20000 in
theorem ggX6_sumOf_X6_isSum : GoodIn wsX6_sumOf wsX6_isSum := goodIn_r _ [6, 7, 8, 9, 5, 10] (by decide +kernel) (by decide +kernel)
set_option maxRecDepth 20000 in
theorem gX6_sumOf_X6_isSum : GoodIn wsX6_sumOf (va_wsS RX6 131 yX6_isSum wsX6_isSum) := goodIn_app (goodIn_of _ (by decide +kernel)) ggX6_sumOf_X6_isSum
set_option maxRecDepth 20000 in
theorem ggX6_sumOf_X6_in : GoodIn wsX6_sumOf wsX6_in := goodIn_r _ [10] (by decide +kernel) (by decide +kernel)
set_option maxRecDepth 20000 in
theorem gX6_sumOf_X6_in : GoodIn wsX6_sumOf (va_wsS RX6 75 yX6_in wsX6_in) := goodIn_app (goodIn_of _ (by decide +kernel)) ggX6_sumOf_X6_in
set_option maxRecDepth 20000 in
theorem ggX6_sumOf_X6_others : GoodIn wsX6_sumOf wsX6_others := goodIn_r _ [14, 15, 16, 17, 5, 18, 19, 69, 70, 71, 72, 73, 74, 75, 76, 77, 78, 79, 80, 81, 82, 83, 84, 85, 86, 87, 88, 89] (by decide +kernel) (by decide +kernel)
set_option maxRecDepth 20000 in
theorem gX6_sumOf_X6_others : GoodIn wsX6_sumOf (wsV RX6 152 RX6 yX6_others wsX6_others) := goodIn_app (goodIn_of _ (by decide +kernel)) ggX6_sumOf_X6_others
set_option maxRecDepth 20000 in
theorem ggX6_sumOf_X6_sumOfFactors : GoodIn wsX6_sumOf wsX6_sumOfFactors := goodIn_r _ [23, 24, 25, 26, 5, 27, 28, 29, 30, 31, 19, 32, 33, 34, 15, 16, 17, 18, 69, 70, 71, 72, 73, 74, 75, 76, 77, 78, 79, 80, 81, 82, 83, 84, 85, 86, 87, 88, 89] (by decide +kernel) (by decide +kernel)
set_option maxRecDepth 20000 in
theorem gX6_sumOf_X6_sumOfFactors : GoodIn wsX6_sumOf (wsV RX6 183 RX6 yX6_sumOfFactors wsX6_sumOfFactors) := goodIn_app (goodIn_of _ (by decide +kernel)) ggX6_sumOf_X6_sumOfFactors
set_option maxRecDepth 20000 in
theorem ggX6_sumOf_X6_begins : GoodIn wsX6_sumOf wsX6_begins := goodIn_r _ [38, 39, 15, 16, 17, 5, 18, 19, 69, 70, 71, 72, 73, 74, 75, 76, 77, 78, 79, 80, 81, 82, 83, 84, 85, 86, 87, 88, 89] (by decide +kernel) (by decide +kernel)
set_option maxRecDepth 20000 in
theorem gX6_sumOf_X6_begins : GoodIn wsX6_sumOf (wsV RX6 138 RX6 yX6_begins wsX6_begins) := goodIn_app (goodIn_of _ (by decide +kernel)) ggX6_sumOf_X6_begins
set_option maxRecDepth 20000 in
theorem ggX6_sumOf_X6_goesByDescents : GoodIn wsX6_sumOf wsX6_goesByDescents := goodIn_r _ [43, 44, 45, 39, 24, 25, 26, 5, 27, 28, 29, 30, 31, 19, 32, 33, 34, 46, 47, 48, 49, 50, 51, 52, 53, 54, 55, 56, 57, 58, 59, 60, 61, 62, 63, 64, 69, 70, 71, 72, 73, 74, 75, 76, 77, 78, 79, 80, 81, 82, 83, 84, 85, 86, 87, 88, 89] (by decide +kernel) (by decide +kernel)
set_option maxRecDepth 20000 in
theorem gX6_sumOf_X6_goesByDescents : GoodIn wsX6_sumOf (wsV RX6 186 RX6 yX6_goesByDescents wsX6_goesByDescents) := goodIn_app (goodIn_of _ (by decide +kernel)) ggX6_sumOf_X6_goesByDescents
set_option maxRecDepth 20000 in
theorem ggX6_sumOf_X6_greatest : GoodIn wsX6_sumOf wsX6_greatest := goodIn_r _ [68, 15, 16, 17, 5, 18, 19, 24, 25, 26, 27, 28, 29, 30, 31, 32, 33, 34, 69, 70, 71, 72, 73, 74, 75, 76, 77, 78, 79, 80, 81, 82, 83, 84, 85, 86, 87, 88, 89] (by decide +kernel) (by decide +kernel)
set_option maxRecDepth 20000 in
theorem gX6_sumOf_X6_greatest : GoodIn wsX6_sumOf (wsV RX6 190 RX6 yX6_greatest wsX6_greatest) := goodIn_app (goodIn_of _ (by decide +kernel)) ggX6_sumOf_X6_greatest
theorem dX6_sumOf_0 : decode cX6_sumOf 0 = .ok (.iload_n 1, 1) := by decide +kernel
theorem dX6_sumOf_1 : decode cX6_sumOf 1 = .ok (.invokestatic 131, 3) := by decide +kernel
theorem dX6_sumOf_4 : decode cX6_sumOf 4 = .ok (.ifCond .eq 15, 3) := by decide +kernel
theorem dX6_sumOf_7 : decode cX6_sumOf 7 = .ok (.iload_n 2, 1) := by decide +kernel
theorem dX6_sumOf_8 : decode cX6_sumOf 8 = .ok (.i2l, 1) := by decide +kernel
theorem dX6_sumOf_9 : decode cX6_sumOf 9 = .ok (.lconst 0, 1) := by decide +kernel
theorem dX6_sumOf_10 : decode cX6_sumOf 10 = .ok (.ldc2_w 181, 3) := by decide +kernel
theorem dX6_sumOf_13 : decode cX6_sumOf 13 = .ok (.invokestatic 75, 3) := by decide +kernel
theorem dX6_sumOf_16 : decode cX6_sumOf 16 = .ok (.ifCond .ne 6, 3) := by decide +kernel
theorem dX6_sumOf_19 : decode cX6_sumOf 19 = .ok (.ldc 97, 2) := by decide +kernel
theorem dX6_sumOf_21 : decode cX6_sumOf 21 = .ok (.ireturn, 1) := by decide +kernel
theorem dX6_sumOf_22 : decode cX6_sumOf 22 = .ok (.iload_n 2, 1) := by decide +kernel
theorem dX6_sumOf_23 : decode cX6_sumOf 23 = .ok (.tableswitch 66 0 3 #[29, 35, 41, 59], 29) := by decide +kernel
theorem dX6_sumOf_52 : decode cX6_sumOf 52 = .ok (.aload_n 0, 1) := by decide +kernel
theorem dX6_sumOf_53 : decode cX6_sumOf 53 = .ok (.iload_n 1, 1) := by decide +kernel
theorem dX6_sumOf_54 : decode cX6_sumOf 54 = .ok (.invokevirtual 152, 3) := by decide +kernel
theorem dX6_sumOf_57 : decode cX6_sumOf 57 = .ok (.ireturn, 1) := by decide +kernel
theorem dX6_sumOf_58 : decode cX6_sumOf 58 = .ok (.aload_n 0, 1) := by decide +kernel
theorem dX6_sumOf_59 : decode cX6_sumOf 59 = .ok (.iload_n 1, 1) := by decide +kernel
theorem dX6_sumOf_60 : decode cX6_sumOf 60 = .ok (.invokevirtual 183, 3) := by decide +kernel
theorem dX6_sumOf_63 : decode cX6_sumOf 63 = .ok (.ireturn, 1) := by decide +kernel
theorem dX6_sumOf_64 : decode cX6_sumOf 64 = .ok (.aload_n 0, 1) := by decide +kernel
theorem dX6_sumOf_65 : decode cX6_sumOf 65 = .ok (.iload_n 1, 1) := by decide +kernel
theorem dX6_sumOf_66 : decode cX6_sumOf 66 = .ok (.invokevirtual 138, 3) := by decide +kernel
theorem dX6_sumOf_69 : decode cX6_sumOf 69 = .ok (.aload_n 0, 1) := by decide +kernel
theorem dX6_sumOf_70 : decode cX6_sumOf 70 = .ok (.invokevirtual 186, 3) := by decide +kernel
theorem dX6_sumOf_73 : decode cX6_sumOf 73 = .ok (.ifCond .eq 7, 3) := by decide +kernel
theorem dX6_sumOf_76 : decode cX6_sumOf 76 = .ok (.iconst 1, 1) := by decide +kernel
theorem dX6_sumOf_77 : decode cX6_sumOf 77 = .ok (.goto 4, 3) := by decide +kernel
theorem dX6_sumOf_80 : decode cX6_sumOf 80 = .ok (.iconst 0, 1) := by decide +kernel
theorem dX6_sumOf_81 : decode cX6_sumOf 81 = .ok (.ireturn, 1) := by decide +kernel
theorem dX6_sumOf_82 : decode cX6_sumOf 82 = .ok (.aload_n 0, 1) := by decide +kernel
theorem dX6_sumOf_83 : decode cX6_sumOf 83 = .ok (.iload_n 1, 1) := by decide +kernel
theorem dX6_sumOf_84 : decode cX6_sumOf 84 = .ok (.iconst 1, 1) := by decide +kernel
theorem dX6_sumOf_85 : decode cX6_sumOf 85 = .ok (.invokevirtual 190, 3) := by decide +kernel
theorem dX6_sumOf_88 : decode cX6_sumOf 88 = .ok (.ireturn, 1) := by decide +kernel
theorem dX6_sumOf_89 : decode cX6_sumOf 89 = .ok (.aload_n 0, 1) := by decide +kernel
theorem dX6_sumOf_90 : decode cX6_sumOf 90 = .ok (.iload_n 1, 1) := by decide +kernel
theorem dX6_sumOf_91 : decode cX6_sumOf 91 = .ok (.iconst (-1), 1) := by decide +kernel
theorem dX6_sumOf_92 : decode cX6_sumOf 92 = .ok (.invokevirtual 190, 3) := by decide +kernel
theorem dX6_sumOf_95 : decode cX6_sumOf 95 = .ok (.ireturn, 1) := by decide +kernel
set_option maxRecDepth 20000 in
theorem ggX6_classOf_X6_isSum : GoodIn wsX6_classOf wsX6_isSum := goodIn_r _ [7, 8, 9, 10, 6, 11] (by decide +kernel) (by decide +kernel)
set_option maxRecDepth 20000 in
theorem gX6_classOf_X6_isSum : GoodIn wsX6_classOf (va_wsS RX6 131 yX6_isSum wsX6_isSum) := goodIn_app (goodIn_of _ (by decide +kernel)) ggX6_classOf_X6_isSum
set_option maxRecDepth 20000 in
theorem ggX6_classOf_X6_isSet : GoodIn wsX6_classOf wsX6_isSet := goodIn_r _ [15, 16, 17, 18, 6, 19, 20, 9, 10, 11, 68, 69, 70, 71, 72, 73, 74, 75, 76, 77, 78, 79, 80, 81, 82, 83, 84, 85, 86, 87, 88] (by decide +kernel) (by decide +kernel)
set_option maxRecDepth 20000 in
theorem gX6_classOf_X6_isSet : GoodIn wsX6_classOf (wsV RX6 145 RX6 yX6_isSet wsX6_isSet) := goodIn_app (goodIn_of _ (by decide +kernel)) ggX6_classOf_X6_isSet
set_option maxRecDepth 20000 in
theorem ggX6_classOf_X6_in : GoodIn wsX6_classOf wsX6_in := goodIn_r _ [11] (by decide +kernel) (by decide +kernel)
set_option maxRecDepth 20000 in
theorem gX6_classOf_X6_in : GoodIn wsX6_classOf (va_wsS RX6 75 yX6_in wsX6_in) := goodIn_app (goodIn_of _ (by decide +kernel)) ggX6_classOf_X6_in
set_option maxRecDepth 20000 in
theorem ggX6_classOf_X6_begins : GoodIn wsX6_classOf wsX6_begins := goodIn_r _ [24, 25, 26, 27, 28, 6, 29, 20, 68, 69, 70, 71, 72, 73, 74, 75, 76, 77, 78, 79, 80, 81, 82, 83, 84, 85, 86, 87, 88] (by decide +kernel) (by decide +kernel)
set_option maxRecDepth 20000 in
theorem gX6_classOf_X6_begins : GoodIn wsX6_classOf (wsV RX6 138 RX6 yX6_begins wsX6_begins) := goodIn_app (goodIn_of _ (by decide +kernel)) ggX6_classOf_X6_begins
set_option maxRecDepth 20000 in
theorem ggX6_classOf_X6_goesByDescents : GoodIn wsX6_classOf wsX6_goesByDescents := goodIn_r _ [33, 34, 3, 25, 35, 36, 37, 6, 38, 16, 17, 18, 19, 20, 39, 40, 41, 42, 43, 44, 45, 46, 47, 48, 49, 50, 51, 52, 53, 54, 55, 56, 57, 58, 59, 60, 68, 69, 70, 71, 72, 73, 74, 75, 76, 77, 78, 79, 80, 81, 82, 83, 84, 85, 86, 87, 88] (by decide +kernel) (by decide +kernel)
set_option maxRecDepth 20000 in
theorem gX6_classOf_X6_goesByDescents : GoodIn wsX6_classOf (wsV RX6 186 RX6 yX6_goesByDescents wsX6_goesByDescents) := goodIn_app (goodIn_of _ (by decide +kernel)) ggX6_classOf_X6_goesByDescents
set_option maxRecDepth 20000 in
theorem ggX6_classOf_X6_wideFactor : GoodIn wsX6_classOf wsX6_wideFactor := goodIn_r _ [64, 3, 16, 17, 18, 6, 19, 20, 65, 66, 67, 68, 69, 70, 71, 72, 73, 74, 75, 76, 77, 78, 79, 80, 81, 82, 83, 84, 85, 86, 87, 88] (by decide +kernel) (by decide +kernel)
set_option maxRecDepth 20000 in
theorem gX6_classOf_X6_wideFactor : GoodIn wsX6_classOf (wsV RX6 193 RX6 yX6_wideFactor wsX6_wideFactor) := goodIn_app (goodIn_of _ (by decide +kernel)) ggX6_classOf_X6_wideFactor
theorem dX6_classOf_0 : decode cX6_classOf 0 = .ok (.iload_n 1, 1) := by decide +kernel
theorem dX6_classOf_1 : decode cX6_classOf 1 = .ok (.invokestatic 131, 3) := by decide +kernel
theorem dX6_classOf_4 : decode cX6_classOf 4 = .ok (.ifCond .eq 21, 3) := by decide +kernel
theorem dX6_classOf_7 : decode cX6_classOf 7 = .ok (.aload_n 0, 1) := by decide +kernel
theorem dX6_classOf_8 : decode cX6_classOf 8 = .ok (.iload_n 2, 1) := by decide +kernel
theorem dX6_classOf_9 : decode cX6_classOf 9 = .ok (.invokevirtual 145, 3) := by decide +kernel
theorem dX6_classOf_12 : decode cX6_classOf 12 = .ok (.ifCond .eq 13, 3) := by decide +kernel
theorem dX6_classOf_15 : decode cX6_classOf 15 = .ok (.iload_n 3, 1) := by decide +kernel
theorem dX6_classOf_16 : decode cX6_classOf 16 = .ok (.i2l, 1) := by decide +kernel
theorem dX6_classOf_17 : decode cX6_classOf 17 = .ok (.lconst 0, 1) := by decide +kernel
theorem dX6_classOf_18 : decode cX6_classOf 18 = .ok (.lconst 1, 1) := by decide +kernel
theorem dX6_classOf_19 : decode cX6_classOf 19 = .ok (.invokestatic 75, 3) := by decide +kernel
theorem dX6_classOf_22 : decode cX6_classOf 22 = .ok (.ifCond .ne 6, 3) := by decide +kernel
theorem dX6_classOf_25 : decode cX6_classOf 25 = .ok (.ldc 97, 2) := by decide +kernel
theorem dX6_classOf_27 : decode cX6_classOf 27 = .ok (.ireturn, 1) := by decide +kernel
theorem dX6_classOf_28 : decode cX6_classOf 28 = .ok (.aload_n 0, 1) := by decide +kernel
theorem dX6_classOf_29 : decode cX6_classOf 29 = .ok (.iload_n 1, 1) := by decide +kernel
theorem dX6_classOf_30 : decode cX6_classOf 30 = .ok (.invokevirtual 138, 3) := by decide +kernel
theorem dX6_classOf_33 : decode cX6_classOf 33 = .ok (.aload_n 0, 1) := by decide +kernel
theorem dX6_classOf_34 : decode cX6_classOf 34 = .ok (.invokevirtual 186, 3) := by decide +kernel
theorem dX6_classOf_37 : decode cX6_classOf 37 = .ok (.ifCond .ne 6, 3) := by decide +kernel
theorem dX6_classOf_40 : decode cX6_classOf 40 = .ok (.ldc 177, 2) := by decide +kernel
theorem dX6_classOf_42 : decode cX6_classOf 42 = .ok (.ireturn, 1) := by decide +kernel
theorem dX6_classOf_43 : decode cX6_classOf 43 = .ok (.iload_n 3, 1) := by decide +kernel
theorem dX6_classOf_44 : decode cX6_classOf 44 = .ok (.ifCond .ne 13, 3) := by decide +kernel
theorem dX6_classOf_47 : decode cX6_classOf 47 = .ok (.aload_n 0, 1) := by decide +kernel
theorem dX6_classOf_48 : decode cX6_classOf 48 = .ok (.getfield 32, 3) := by decide +kernel
theorem dX6_classOf_51 : decode cX6_classOf 51 = .ok (.iload_n 2, 1) := by decide +kernel
theorem dX6_classOf_52 : decode cX6_classOf 52 = .ok (.laload, 1) := by decide +kernel
theorem dX6_classOf_53 : decode cX6_classOf 53 = .ok (.l2i, 1) := by decide +kernel
theorem dX6_classOf_54 : decode cX6_classOf 54 = .ok (.goto 8, 3) := by decide +kernel
theorem dX6_classOf_57 : decode cX6_classOf 57 = .ok (.aload_n 0, 1) := by decide +kernel
theorem dX6_classOf_58 : decode cX6_classOf 58 = .ok (.iload_n 2, 1) := by decide +kernel
theorem dX6_classOf_59 : decode cX6_classOf 59 = .ok (.invokevirtual 193, 3) := by decide +kernel
theorem dX6_classOf_62 : decode cX6_classOf 62 = .ok (.ireturn, 1) := by decide +kernel
set_option maxRecDepth 20000 in
theorem ggX6_peakSum_X6_isSum : GoodIn wsX6_peakSum wsX6_isSum := goodIn_r _ [6, 7, 8, 9, 5, 10] (by decide +kernel) (by decide +kernel)
set_option maxRecDepth 20000 in
theorem gX6_peakSum_X6_isSum : GoodIn wsX6_peakSum (va_wsS RX6 131 yX6_isSum wsX6_isSum) := goodIn_app (goodIn_of _ (by decide +kernel)) ggX6_peakSum_X6_isSum
set_option maxRecDepth 20000 in
theorem ggX6_peakSum_X6_n : GoodIn wsX6_peakSum wsX6_n := goodIn_r _ [14, 15, 46, 47, 48, 49, 50, 51, 52, 53, 54, 55, 56, 57, 58, 59, 60, 61, 62, 63, 64, 65, 66] (by decide +kernel) (by decide +kernel)
set_option maxRecDepth 20000 in
theorem gX6_peakSum_X6_n : GoodIn wsX6_peakSum (wsV RX6 54 RX6 yX6_n wsX6_n) := goodIn_app (goodIn_of _ (by decide +kernel)) ggX6_peakSum_X6_n
set_option maxRecDepth 20000 in
theorem ggX6_peakSum_X6_in : GoodIn wsX6_peakSum wsX6_in := goodIn_r _ [10] (by decide +kernel) (by decide +kernel)
set_option maxRecDepth 20000 in
theorem gX6_peakSum_X6_in : GoodIn wsX6_peakSum (va_wsS RX6 75 yX6_in wsX6_in) := goodIn_app (goodIn_of _ (by decide +kernel)) ggX6_peakSum_X6_in
set_option maxRecDepth 20000 in
theorem ggX6_peakSum_X6_orders : GoodIn wsX6_peakSum wsX6_orders := goodIn_r _ [19, 11, 12, 13, 5, 14, 15, 20, 21, 22, 46, 47, 48, 49, 50, 51, 52, 53, 54, 55, 56, 57, 58, 59, 60, 61, 62, 63, 64, 65, 66] (by decide +kernel) (by decide +kernel)
set_option maxRecDepth 20000 in
theorem gX6_peakSum_X6_orders : GoodIn wsX6_peakSum (wsV RX6 65 RX6 yX6_orders wsX6_orders) := goodIn_app (goodIn_of _ (by decide +kernel)) ggX6_peakSum_X6_orders
set_option maxRecDepth 20000 in
theorem ggX6_peakSum_X6_peaks : GoodIn wsX6_peakSum wsX6_peaks := goodIn_r _ [26, 11, 12, 13, 5, 14, 15, 27, 28, 29, 30, 31, 32, 33, 34, 35, 36, 37, 16, 17, 18, 19, 20, 21, 22, 38, 39, 40, 41, 46, 47, 48, 49, 50, 51, 52, 53, 54, 55, 56, 57, 58, 59, 60, 61, 62, 63, 64, 65, 66] (by decide +kernel) (by decide +kernel)
set_option maxRecDepth 20000 in
theorem gX6_peakSum_X6_peaks : GoodIn wsX6_peakSum (wsV RX6 98 RX6 yX6_peaks wsX6_peaks) := goodIn_app (goodIn_of _ (by decide +kernel)) ggX6_peakSum_X6_peaks
set_option maxRecDepth 20000 in
theorem ggX6_peakSum_X6_get : GoodIn wsX6_peakSum wsX6_get := goodIn_r _ [45, 15, 46, 47, 48, 49, 50, 51, 52, 53, 54, 55, 56, 57, 58, 59, 60, 61, 62, 63, 64, 65, 66] (by decide +kernel) (by decide +kernel)
set_option maxRecDepth 20000 in
theorem gX6_peakSum_X6_get : GoodIn wsX6_peakSum (wsV RX6 118 RX6 yX6_get wsX6_get) := goodIn_app (goodIn_of _ (by decide +kernel)) ggX6_peakSum_X6_get
theorem dX6_peakSum_0 : decode cX6_peakSum 0 = .ok (.iload_n 1, 1) := by decide +kernel
theorem dX6_peakSum_1 : decode cX6_peakSum 1 = .ok (.invokestatic 131, 3) := by decide +kernel
theorem dX6_peakSum_4 : decode cX6_peakSum 4 = .ok (.ifCond .eq 21, 3) := by decide +kernel
theorem dX6_peakSum_7 : decode cX6_peakSum 7 = .ok (.iload_n 2, 1) := by decide +kernel
theorem dX6_peakSum_8 : decode cX6_peakSum 8 = .ok (.i2l, 1) := by decide +kernel
theorem dX6_peakSum_9 : decode cX6_peakSum 9 = .ok (.lconst 0, 1) := by decide +kernel
theorem dX6_peakSum_10 : decode cX6_peakSum 10 = .ok (.iconst 1, 1) := by decide +kernel
theorem dX6_peakSum_11 : decode cX6_peakSum 11 = .ok (.aload_n 0, 1) := by decide +kernel
theorem dX6_peakSum_12 : decode cX6_peakSum 12 = .ok (.invokevirtual 54, 3) := by decide +kernel
theorem dX6_peakSum_15 : decode cX6_peakSum 15 = .ok (.ishl, 1) := by decide +kernel
theorem dX6_peakSum_16 : decode cX6_peakSum 16 = .ok (.iconst 1, 1) := by decide +kernel
theorem dX6_peakSum_17 : decode cX6_peakSum 17 = .ok (.isub, 1) := by decide +kernel
theorem dX6_peakSum_18 : decode cX6_peakSum 18 = .ok (.i2l, 1) := by decide +kernel
theorem dX6_peakSum_19 : decode cX6_peakSum 19 = .ok (.invokestatic 75, 3) := by decide +kernel
theorem dX6_peakSum_22 : decode cX6_peakSum 22 = .ok (.ifCond .ne 6, 3) := by decide +kernel
theorem dX6_peakSum_25 : decode cX6_peakSum 25 = .ok (.ldc 97, 2) := by decide +kernel
theorem dX6_peakSum_27 : decode cX6_peakSum 27 = .ok (.ireturn, 1) := by decide +kernel
theorem dX6_peakSum_28 : decode cX6_peakSum 28 = .ok (.iconst 0, 1) := by decide +kernel
theorem dX6_peakSum_29 : decode cX6_peakSum 29 = .ok (.istore_n 3, 1) := by decide +kernel
theorem dX6_peakSum_30 : decode cX6_peakSum 30 = .ok (.iconst 0, 1) := by decide +kernel
theorem dX6_peakSum_31 : decode cX6_peakSum 31 = .ok (.istore 4, 2) := by decide +kernel
theorem dX6_peakSum_33 : decode cX6_peakSum 33 = .ok (.iconst 0, 1) := by decide +kernel
theorem dX6_peakSum_34 : decode cX6_peakSum 34 = .ok (.istore 5, 2) := by decide +kernel
theorem dX6_peakSum_36 : decode cX6_peakSum 36 = .ok (.iload 5, 2) := by decide +kernel
theorem dX6_peakSum_38 : decode cX6_peakSum 38 = .ok (.aload_n 0, 1) := by decide +kernel
theorem dX6_peakSum_39 : decode cX6_peakSum 39 = .ok (.invokevirtual 65, 3) := by decide +kernel
theorem dX6_peakSum_42 : decode cX6_peakSum 42 = .ok (.if_icmp .ge 62, 3) := by decide +kernel
theorem dX6_peakSum_45 : decode cX6_peakSum 45 = .ok (.aload_n 0, 1) := by decide +kernel
theorem dX6_peakSum_46 : decode cX6_peakSum 46 = .ok (.iload 5, 2) := by decide +kernel
theorem dX6_peakSum_48 : decode cX6_peakSum 48 = .ok (.invokevirtual 98, 3) := by decide +kernel
theorem dX6_peakSum_51 : decode cX6_peakSum 51 = .ok (.iload_n 2, 1) := by decide +kernel
theorem dX6_peakSum_52 : decode cX6_peakSum 52 = .ok (.if_icmp .ne 7, 3) := by decide +kernel
theorem dX6_peakSum_55 : decode cX6_peakSum 55 = .ok (.iconst 1, 1) := by decide +kernel
theorem dX6_peakSum_56 : decode cX6_peakSum 56 = .ok (.goto 4, 3) := by decide +kernel
theorem dX6_peakSum_59 : decode cX6_peakSum 59 = .ok (.iconst 0, 1) := by decide +kernel
theorem dX6_peakSum_60 : decode cX6_peakSum 60 = .ok (.istore 6, 2) := by decide +kernel
theorem dX6_peakSum_62 : decode cX6_peakSum 62 = .ok (.iload 4, 2) := by decide +kernel
theorem dX6_peakSum_64 : decode cX6_peakSum 64 = .ok (.ifCond .ne 8, 3) := by decide +kernel
theorem dX6_peakSum_67 : decode cX6_peakSum 67 = .ok (.iload 6, 2) := by decide +kernel
theorem dX6_peakSum_69 : decode cX6_peakSum 69 = .ok (.ifCond .eq 7, 3) := by decide +kernel
theorem dX6_peakSum_72 : decode cX6_peakSum 72 = .ok (.iconst 1, 1) := by decide +kernel
theorem dX6_peakSum_73 : decode cX6_peakSum 73 = .ok (.goto 4, 3) := by decide +kernel
theorem dX6_peakSum_76 : decode cX6_peakSum 76 = .ok (.iconst 0, 1) := by decide +kernel
theorem dX6_peakSum_77 : decode cX6_peakSum 77 = .ok (.istore 4, 2) := by decide +kernel
theorem dX6_peakSum_79 : decode cX6_peakSum 79 = .ok (.iload_n 3, 1) := by decide +kernel
theorem dX6_peakSum_80 : decode cX6_peakSum 80 = .ok (.iload 6, 2) := by decide +kernel
theorem dX6_peakSum_82 : decode cX6_peakSum 82 = .ok (.ifCond .eq 13, 3) := by decide +kernel
theorem dX6_peakSum_85 : decode cX6_peakSum 85 = .ok (.aload_n 0, 1) := by decide +kernel
theorem dX6_peakSum_86 : decode cX6_peakSum 86 = .ok (.iload_n 1, 1) := by decide +kernel
theorem dX6_peakSum_87 : decode cX6_peakSum 87 = .ok (.iload 5, 2) := by decide +kernel
theorem dX6_peakSum_89 : decode cX6_peakSum 89 = .ok (.invokevirtual 118, 3) := by decide +kernel
theorem dX6_peakSum_92 : decode cX6_peakSum 92 = .ok (.goto 4, 3) := by decide +kernel
theorem dX6_peakSum_95 : decode cX6_peakSum 95 = .ok (.iconst 0, 1) := by decide +kernel
theorem dX6_peakSum_96 : decode cX6_peakSum 96 = .ok (.iadd, 1) := by decide +kernel
theorem dX6_peakSum_97 : decode cX6_peakSum 97 = .ok (.istore_n 3, 1) := by decide +kernel
theorem dX6_peakSum_98 : decode cX6_peakSum 98 = .ok (.iinc 5 1, 3) := by decide +kernel
theorem dX6_peakSum_101 : decode cX6_peakSum 101 = .ok (.goto (-65), 3) := by decide +kernel
theorem dX6_peakSum_104 : decode cX6_peakSum 104 = .ok (.iload 4, 2) := by decide +kernel
theorem dX6_peakSum_106 : decode cX6_peakSum 106 = .ok (.ifCond .eq 7, 3) := by decide +kernel
theorem dX6_peakSum_109 : decode cX6_peakSum 109 = .ok (.iload_n 3, 1) := by decide +kernel
theorem dX6_peakSum_110 : decode cX6_peakSum 110 = .ok (.goto 5, 3) := by decide +kernel
theorem dX6_peakSum_113 : decode cX6_peakSum 113 = .ok (.ldc 177, 2) := by decide +kernel
theorem dX6_peakSum_115 : decode cX6_peakSum 115 = .ok (.ireturn, 1) := by decide +kernel
set_option maxRecDepth 20000 in
theorem ggX6_square_X6_isSum : GoodIn wsX6_square wsX6_isSum := goodIn_r _ [7, 8, 9, 10, 6, 11] (by decide +kernel) (by decide +kernel)
set_option maxRecDepth 20000 in
theorem gX6_square_X6_isSum : GoodIn wsX6_square (va_wsS RX6 131 yX6_isSum wsX6_isSum) := goodIn_app (goodIn_of _ (by decide +kernel)) ggX6_square_X6_isSum
set_option maxRecDepth 20000 in
theorem ggX6_square_X6_others : GoodIn wsX6_square wsX6_others := goodIn_r _ [15, 16, 17, 18, 6, 19, 20, 67, 68, 69, 70, 71, 72, 73, 74, 75, 76, 77, 78, 79, 80, 81, 82, 83, 84, 85, 86, 87] (by decide +kernel) (by decide +kernel)
set_option maxRecDepth 20000 in
theorem gX6_square_X6_others : GoodIn wsX6_square (wsV RX6 152 RX6 yX6_others wsX6_others) := goodIn_app (goodIn_of _ (by decide +kernel)) ggX6_square_X6_others
set_option maxRecDepth 20000 in
theorem ggX6_square_X6_multiplies : GoodIn wsX6_square wsX6_multiplies := goodIn_r _ [24, 3, 25, 26, 27, 6, 28, 29, 30, 31, 32, 33, 34, 35, 36, 20, 37, 38, 39, 16, 17, 18, 19, 40, 41, 42, 43, 44, 45, 46, 47, 48, 49, 50, 51, 52, 53, 54, 55, 56, 57, 58, 59, 60, 61, 62, 67, 68, 69, 70, 71, 72, 73, 74, 75, 76, 77, 78, 79, 80, 81, 82, 83, 84, 85, 86, 87] (by decide +kernel) (by decide +kernel)
set_option maxRecDepth 20000 in
theorem gX6_square_X6_multiplies : GoodIn wsX6_square (wsV RX6 158 RX6 yX6_multiplies wsX6_multiplies) := goodIn_app (goodIn_of _ (by decide +kernel)) ggX6_square_X6_multiplies
set_option maxRecDepth 20000 in
theorem ggX6_square_X6_termOf : GoodIn wsX6_square wsX6_termOf := goodIn_r _ [66, 1, 2, 4, 5, 6, 7, 8, 9, 10, 11, 29, 30, 31, 32, 33, 34, 35, 36, 20, 37, 38, 39, 16, 17, 18, 19, 67, 68, 69, 70, 71, 72, 73, 74, 75, 76, 77, 78, 79, 80, 81, 82, 83, 84, 85, 86, 87] (by decide +kernel) (by decide +kernel)
set_option maxRecDepth 20000 in
theorem gX6_square_X6_termOf : GoodIn wsX6_square (wsV RX6 196 RX6 yX6_termOf wsX6_termOf) := goodIn_app (goodIn_of _ (by decide +kernel)) ggX6_square_X6_termOf
set_option maxRecDepth 20000 in
theorem ggX6_square_X6_get : GoodIn wsX6_square wsX6_get := goodIn_r _ [19, 20, 67, 68, 69, 70, 71, 72, 73, 74, 75, 76, 77, 78, 79, 80, 81, 82, 83, 84, 85, 86, 87] (by decide +kernel) (by decide +kernel)
set_option maxRecDepth 20000 in
theorem gX6_square_X6_get : GoodIn wsX6_square (wsV RX6 118 RX6 yX6_get wsX6_get) := goodIn_app (goodIn_of _ (by decide +kernel)) ggX6_square_X6_get
set_option maxRecDepth 20000 in
theorem ggX6_square_X6_orders : GoodIn wsX6_square wsX6_orders := goodIn_r _ [32, 33, 34, 35, 6, 36, 20, 37, 38, 39, 67, 68, 69, 70, 71, 72, 73, 74, 75, 76, 77, 78, 79, 80, 81, 82, 83, 84, 85, 86, 87] (by decide +kernel) (by decide +kernel)
set_option maxRecDepth 20000 in
theorem gX6_square_X6_orders : GoodIn wsX6_square (wsV RX6 65 RX6 yX6_orders wsX6_orders) := goodIn_app (goodIn_of _ (by decide +kernel)) ggX6_square_X6_orders
theorem dX6_square_0 : decode cX6_square 0 = .ok (.iload_n 1, 1) := by decide +kernel
theorem dX6_square_1 : decode cX6_square 1 = .ok (.invokestatic 131, 3) := by decide +kernel
theorem dX6_square_4 : decode cX6_square 4 = .ok (.ifCond .ne 6, 3) := by decide +kernel
theorem dX6_square_7 : decode cX6_square 7 = .ok (.ldc 97, 2) := by decide +kernel
theorem dX6_square_9 : decode cX6_square 9 = .ok (.ireturn, 1) := by decide +kernel
theorem dX6_square_10 : decode cX6_square 10 = .ok (.aload_n 0, 1) := by decide +kernel
theorem dX6_square_11 : decode cX6_square 11 = .ok (.iload_n 1, 1) := by decide +kernel
theorem dX6_square_12 : decode cX6_square 12 = .ok (.invokevirtual 152, 3) := by decide +kernel
theorem dX6_square_15 : decode cX6_square 15 = .ok (.ifCond .ne 6, 3) := by decide +kernel
theorem dX6_square_18 : decode cX6_square 18 = .ok (.ldc 177, 2) := by decide +kernel
theorem dX6_square_20 : decode cX6_square 20 = .ok (.ireturn, 1) := by decide +kernel
theorem dX6_square_21 : decode cX6_square 21 = .ok (.aload_n 0, 1) := by decide +kernel
theorem dX6_square_22 : decode cX6_square 22 = .ok (.iload_n 1, 1) := by decide +kernel
theorem dX6_square_23 : decode cX6_square 23 = .ok (.iload_n 1, 1) := by decide +kernel
theorem dX6_square_24 : decode cX6_square 24 = .ok (.invokevirtual 158, 3) := by decide +kernel
theorem dX6_square_27 : decode cX6_square 27 = .ok (.aload_n 0, 1) := by decide +kernel
theorem dX6_square_28 : decode cX6_square 28 = .ok (.iload_n 1, 1) := by decide +kernel
theorem dX6_square_29 : decode cX6_square 29 = .ok (.iconst 0, 1) := by decide +kernel
theorem dX6_square_30 : decode cX6_square 30 = .ok (.iconst 0, 1) := by decide +kernel
theorem dX6_square_31 : decode cX6_square 31 = .ok (.invokevirtual 196, 3) := by decide +kernel
theorem dX6_square_34 : decode cX6_square 34 = .ok (.istore_n 2, 1) := by decide +kernel
theorem dX6_square_35 : decode cX6_square 35 = .ok (.aload_n 0, 1) := by decide +kernel
theorem dX6_square_36 : decode cX6_square 36 = .ok (.getfield 22, 3) := by decide +kernel
theorem dX6_square_39 : decode cX6_square 39 = .ok (.iload_n 2, 1) := by decide +kernel
theorem dX6_square_40 : decode cX6_square 40 = .ok (.laload, 1) := by decide +kernel
theorem dX6_square_41 : decode cX6_square 41 = .ok (.aload_n 0, 1) := by decide +kernel
theorem dX6_square_42 : decode cX6_square 42 = .ok (.iload_n 1, 1) := by decide +kernel
theorem dX6_square_43 : decode cX6_square 43 = .ok (.iload_n 2, 1) := by decide +kernel
theorem dX6_square_44 : decode cX6_square 44 = .ok (.invokevirtual 118, 3) := by decide +kernel
theorem dX6_square_47 : decode cX6_square 47 = .ok (.i2l, 1) := by decide +kernel
theorem dX6_square_48 : decode cX6_square 48 = .ok (.ldiv, 1) := by decide +kernel
theorem dX6_square_49 : decode cX6_square 49 = .ok (.lstore_n 3, 1) := by decide +kernel
theorem dX6_square_50 : decode cX6_square 50 = .ok (.iconst 0, 1) := by decide +kernel
theorem dX6_square_51 : decode cX6_square 51 = .ok (.istore 5, 2) := by decide +kernel
theorem dX6_square_53 : decode cX6_square 53 = .ok (.iload 5, 2) := by decide +kernel
theorem dX6_square_55 : decode cX6_square 55 = .ok (.aload_n 0, 1) := by decide +kernel
theorem dX6_square_56 : decode cX6_square 56 = .ok (.invokevirtual 65, 3) := by decide +kernel
theorem dX6_square_59 : decode cX6_square 59 = .ok (.if_icmp .ge 33, 3) := by decide +kernel
theorem dX6_square_62 : decode cX6_square 62 = .ok (.aload_n 0, 1) := by decide +kernel
theorem dX6_square_63 : decode cX6_square 63 = .ok (.getfield 22, 3) := by decide +kernel
theorem dX6_square_66 : decode cX6_square 66 = .ok (.iload 5, 2) := by decide +kernel
theorem dX6_square_68 : decode cX6_square 68 = .ok (.laload, 1) := by decide +kernel
theorem dX6_square_69 : decode cX6_square 69 = .ok (.lload_n 3, 1) := by decide +kernel
theorem dX6_square_70 : decode cX6_square 70 = .ok (.aload_n 0, 1) := by decide +kernel
theorem dX6_square_71 : decode cX6_square 71 = .ok (.iload_n 1, 1) := by decide +kernel
theorem dX6_square_72 : decode cX6_square 72 = .ok (.iload 5, 2) := by decide +kernel
theorem dX6_square_74 : decode cX6_square 74 = .ok (.invokevirtual 118, 3) := by decide +kernel
theorem dX6_square_77 : decode cX6_square 77 = .ok (.i2l, 1) := by decide +kernel
theorem dX6_square_78 : decode cX6_square 78 = .ok (.lmul, 1) := by decide +kernel
theorem dX6_square_79 : decode cX6_square 79 = .ok (.lcmp, 1) := by decide +kernel
theorem dX6_square_80 : decode cX6_square 80 = .ok (.ifCond .eq 6, 3) := by decide +kernel
theorem dX6_square_83 : decode cX6_square 83 = .ok (.ldc 177, 2) := by decide +kernel
theorem dX6_square_85 : decode cX6_square 85 = .ok (.ireturn, 1) := by decide +kernel
theorem dX6_square_86 : decode cX6_square 86 = .ok (.iinc 5 1, 3) := by decide +kernel
theorem dX6_square_89 : decode cX6_square 89 = .ok (.goto (-36), 3) := by decide +kernel
theorem dX6_square_92 : decode cX6_square 92 = .ok (.lload_n 3, 1) := by decide +kernel
theorem dX6_square_93 : decode cX6_square 93 = .ok (.l2i, 1) := by decide +kernel
theorem dX6_square_94 : decode cX6_square 94 = .ok (.ireturn, 1) := by decide +kernel
set_option maxRecDepth 20000 in
theorem ggX6_byOrders_X6_isSet : GoodIn wsX6_byOrders wsX6_isSet := goodIn_r _ [7, 8, 9, 10, 6, 11, 12, 13, 14, 15, 71, 72, 73, 74, 75, 76, 77, 78, 79, 80, 81, 82, 83, 84, 85, 86, 87, 88, 89, 90, 91] (by decide +kernel) (by decide +kernel)
set_option maxRecDepth 20000 in
theorem gX6_byOrders_X6_isSet : GoodIn wsX6_byOrders (wsV RX6 145 RX6 yX6_isSet wsX6_isSet) := goodIn_app (goodIn_of _ (by decide +kernel)) ggX6_byOrders_X6_isSet
set_option maxRecDepth 20000 in
theorem ggX6_byOrders_X6_empties : GoodIn wsX6_byOrders wsX6_empties := goodIn_r _ [19, 2, 71, 72, 73, 74, 75, 76, 77, 78, 79, 80, 81, 82, 83, 84, 85, 86, 87, 88, 89, 90, 91] (by decide +kernel) (by decide +kernel)
set_option maxRecDepth 20000 in
theorem gX6_byOrders_X6_empties : GoodIn wsX6_byOrders (wsV RX6 155 RX6 yX6_empties wsX6_empties) := goodIn_app (goodIn_of _ (by decide +kernel)) ggX6_byOrders_X6_empties
set_option maxRecDepth 20000 in
theorem ggX6_byOrders_X6_orders : GoodIn wsX6_byOrders wsX6_orders := goodIn_r _ [23, 8, 9, 10, 6, 11, 12, 24, 25, 26, 71, 72, 73, 74, 75, 76, 77, 78, 79, 80, 81, 82, 83, 84, 85, 86, 87, 88, 89, 90, 91] (by decide +kernel) (by decide +kernel)
set_option maxRecDepth 20000 in
theorem gX6_byOrders_X6_orders : GoodIn wsX6_byOrders (wsV RX6 65 RX6 yX6_orders wsX6_orders) := goodIn_app (goodIn_of _ (by decide +kernel)) ggX6_byOrders_X6_orders
set_option maxRecDepth 20000 in
theorem ggX6_byOrders_X6_isInClass : GoodIn wsX6_byOrders wsX6_isInClass := goodIn_r _ [30, 31, 32, 33, 6, 34, 8, 9, 10, 11, 12, 35, 36, 37, 38, 39, 40, 41, 42, 43, 44, 45, 20, 21, 22, 23, 24, 25, 26, 46, 47, 48, 49, 71, 72, 73, 74, 75, 76, 77, 78, 79, 80, 81, 82, 83, 84, 85, 86, 87, 88, 89, 90, 91] (by decide +kernel) (by decide +kernel)
set_option maxRecDepth 20000 in
theorem gX6_byOrders_X6_isInClass : GoodIn wsX6_byOrders (wsV RX6 148 RX6 yX6_isInClass wsX6_isInClass) := goodIn_app (goodIn_of _ (by decide +kernel)) ggX6_byOrders_X6_isInClass
set_option maxRecDepth 20000 in
theorem ggX6_byOrders_X6_productOf : GoodIn wsX6_byOrders wsX6_productOf := goodIn_r _ [53, 45, 8, 9, 10, 6, 11, 12, 35, 36, 37, 38, 39, 40, 41, 42, 43, 44, 20, 21, 22, 23, 24, 25, 26, 46, 47, 48, 49, 54, 55, 56, 57, 71, 72, 73, 74, 75, 76, 77, 78, 79, 80, 81, 82, 83, 84, 85, 86, 87, 88, 89, 90, 91] (by decide +kernel) (by decide +kernel)
set_option maxRecDepth 20000 in
theorem gX6_byOrders_X6_productOf : GoodIn wsX6_byOrders (wsV RX6 113 RX6 yX6_productOf wsX6_productOf) := goodIn_app (goodIn_of _ (by decide +kernel)) ggX6_byOrders_X6_productOf
set_option maxRecDepth 20000 in
theorem ggX6_byOrders_X6_goesByDescents : GoodIn wsX6_byOrders wsX6_goesByDescents := goodIn_r _ [61, 62, 63, 2, 20, 21, 22, 6, 23, 8, 9, 10, 11, 12, 24, 25, 26, 31, 32, 33, 34, 35, 36, 37, 38, 39, 40, 41, 42, 43, 44, 45, 46, 47, 48, 49, 71, 72, 73, 74, 75, 76, 77, 78, 79, 80, 81, 82, 83, 84, 85, 86, 87, 88, 89, 90, 91] (by decide +kernel) (by decide +kernel)
set_option maxRecDepth 20000 in
theorem gX6_byOrders_X6_goesByDescents : GoodIn wsX6_byOrders (wsV RX6 186 RX6 yX6_goesByDescents wsX6_goesByDescents) := goodIn_app (goodIn_of _ (by decide +kernel)) ggX6_byOrders_X6_goesByDescents
set_option maxRecDepth 20000 in
theorem ggX6_byOrders_X6_wideFactor : GoodIn wsX6_byOrders wsX6_wideFactor := goodIn_r _ [67, 63, 8, 9, 10, 6, 11, 12, 68, 69, 70, 71, 72, 73, 74, 75, 76, 77, 78, 79, 80, 81, 82, 83, 84, 85, 86, 87, 88, 89, 90, 91] (by decide +kernel) (by decide +kernel)
set_option maxRecDepth 20000 in
theorem gX6_byOrders_X6_wideFactor : GoodIn wsX6_byOrders (wsV RX6 193 RX6 yX6_wideFactor wsX6_wideFactor) := goodIn_app (goodIn_of _ (by decide +kernel)) ggX6_byOrders_X6_wideFactor
theorem dX6_byOrders_0 : decode cX6_byOrders 0 = .ok (.aload_n 0, 1) := by decide +kernel
theorem dX6_byOrders_1 : decode cX6_byOrders 1 = .ok (.iload_n 1, 1) := by decide +kernel
theorem dX6_byOrders_2 : decode cX6_byOrders 2 = .ok (.invokevirtual 145, 3) := by decide +kernel
theorem dX6_byOrders_5 : decode cX6_byOrders 5 = .ok (.ifCond .eq 19, 3) := by decide +kernel
theorem dX6_byOrders_8 : decode cX6_byOrders 8 = .ok (.aload_n 0, 1) := by decide +kernel
theorem dX6_byOrders_9 : decode cX6_byOrders 9 = .ok (.iload_n 2, 1) := by decide +kernel
theorem dX6_byOrders_10 : decode cX6_byOrders 10 = .ok (.invokevirtual 145, 3) := by decide +kernel
theorem dX6_byOrders_13 : decode cX6_byOrders 13 = .ok (.ifCond .eq 11, 3) := by decide +kernel
theorem dX6_byOrders_16 : decode cX6_byOrders 16 = .ok (.aload_n 0, 1) := by decide +kernel
theorem dX6_byOrders_17 : decode cX6_byOrders 17 = .ok (.iload_n 3, 1) := by decide +kernel
theorem dX6_byOrders_18 : decode cX6_byOrders 18 = .ok (.invokevirtual 145, 3) := by decide +kernel
theorem dX6_byOrders_21 : decode cX6_byOrders 21 = .ok (.ifCond .ne 6, 3) := by decide +kernel
theorem dX6_byOrders_24 : decode cX6_byOrders 24 = .ok (.ldc 97, 2) := by decide +kernel
theorem dX6_byOrders_26 : decode cX6_byOrders 26 = .ok (.ireturn, 1) := by decide +kernel
theorem dX6_byOrders_27 : decode cX6_byOrders 27 = .ok (.aload_n 0, 1) := by decide +kernel
theorem dX6_byOrders_28 : decode cX6_byOrders 28 = .ok (.invokevirtual 155, 3) := by decide +kernel
theorem dX6_byOrders_31 : decode cX6_byOrders 31 = .ok (.iconst 0, 1) := by decide +kernel
theorem dX6_byOrders_32 : decode cX6_byOrders 32 = .ok (.istore 4, 2) := by decide +kernel
theorem dX6_byOrders_34 : decode cX6_byOrders 34 = .ok (.iload 4, 2) := by decide +kernel
theorem dX6_byOrders_36 : decode cX6_byOrders 36 = .ok (.aload_n 0, 1) := by decide +kernel
theorem dX6_byOrders_37 : decode cX6_byOrders 37 = .ok (.invokevirtual 65, 3) := by decide +kernel
theorem dX6_byOrders_40 : decode cX6_byOrders 40 = .ok (.if_icmp .ge 66, 3) := by decide +kernel
theorem dX6_byOrders_43 : decode cX6_byOrders 43 = .ok (.iconst 0, 1) := by decide +kernel
theorem dX6_byOrders_44 : decode cX6_byOrders 44 = .ok (.istore 5, 2) := by decide +kernel
theorem dX6_byOrders_46 : decode cX6_byOrders 46 = .ok (.iload 5, 2) := by decide +kernel
theorem dX6_byOrders_48 : decode cX6_byOrders 48 = .ok (.aload_n 0, 1) := by decide +kernel
theorem dX6_byOrders_49 : decode cX6_byOrders 49 = .ok (.invokevirtual 65, 3) := by decide +kernel
theorem dX6_byOrders_52 : decode cX6_byOrders 52 = .ok (.if_icmp .ge 48, 3) := by decide +kernel
theorem dX6_byOrders_55 : decode cX6_byOrders 55 = .ok (.aload_n 0, 1) := by decide +kernel
theorem dX6_byOrders_56 : decode cX6_byOrders 56 = .ok (.iload 4, 2) := by decide +kernel
theorem dX6_byOrders_58 : decode cX6_byOrders 58 = .ok (.iload_n 1, 1) := by decide +kernel
theorem dX6_byOrders_59 : decode cX6_byOrders 59 = .ok (.iconst 1, 1) := by decide +kernel
theorem dX6_byOrders_60 : decode cX6_byOrders 60 = .ok (.invokevirtual 148, 3) := by decide +kernel
theorem dX6_byOrders_63 : decode cX6_byOrders 63 = .ok (.ifCond .eq 37, 3) := by decide +kernel
theorem dX6_byOrders_66 : decode cX6_byOrders 66 = .ok (.aload_n 0, 1) := by decide +kernel
theorem dX6_byOrders_67 : decode cX6_byOrders 67 = .ok (.iload 5, 2) := by decide +kernel
theorem dX6_byOrders_69 : decode cX6_byOrders 69 = .ok (.iload_n 2, 1) := by decide +kernel
theorem dX6_byOrders_70 : decode cX6_byOrders 70 = .ok (.iconst 1, 1) := by decide +kernel
theorem dX6_byOrders_71 : decode cX6_byOrders 71 = .ok (.invokevirtual 148, 3) := by decide +kernel
theorem dX6_byOrders_74 : decode cX6_byOrders 74 = .ok (.ifCond .eq 20, 3) := by decide +kernel
theorem dX6_byOrders_77 : decode cX6_byOrders 77 = .ok (.aload_n 0, 1) := by decide +kernel
theorem dX6_byOrders_78 : decode cX6_byOrders 78 = .ok (.getfield 22, 3) := by decide +kernel
theorem dX6_byOrders_81 : decode cX6_byOrders 81 = .ok (.aload_n 0, 1) := by decide +kernel
theorem dX6_byOrders_82 : decode cX6_byOrders 82 = .ok (.iload 4, 2) := by decide +kernel
theorem dX6_byOrders_84 : decode cX6_byOrders 84 = .ok (.iload 5, 2) := by decide +kernel
theorem dX6_byOrders_86 : decode cX6_byOrders 86 = .ok (.invokevirtual 113, 3) := by decide +kernel
theorem dX6_byOrders_89 : decode cX6_byOrders 89 = .ok (.dup2, 1) := by decide +kernel
theorem dX6_byOrders_90 : decode cX6_byOrders 90 = .ok (.laload, 1) := by decide +kernel
theorem dX6_byOrders_91 : decode cX6_byOrders 91 = .ok (.lconst 1, 1) := by decide +kernel
theorem dX6_byOrders_92 : decode cX6_byOrders 92 = .ok (.ladd, 1) := by decide +kernel
theorem dX6_byOrders_93 : decode cX6_byOrders 93 = .ok (.lastore, 1) := by decide +kernel
theorem dX6_byOrders_94 : decode cX6_byOrders 94 = .ok (.iinc 5 1, 3) := by decide +kernel
theorem dX6_byOrders_97 : decode cX6_byOrders 97 = .ok (.goto (-51), 3) := by decide +kernel
theorem dX6_byOrders_100 : decode cX6_byOrders 100 = .ok (.iinc 4 1, 3) := by decide +kernel
theorem dX6_byOrders_103 : decode cX6_byOrders 103 = .ok (.goto (-69), 3) := by decide +kernel
theorem dX6_byOrders_106 : decode cX6_byOrders 106 = .ok (.aload_n 0, 1) := by decide +kernel
theorem dX6_byOrders_107 : decode cX6_byOrders 107 = .ok (.invokevirtual 186, 3) := by decide +kernel
theorem dX6_byOrders_110 : decode cX6_byOrders 110 = .ok (.istore 4, 2) := by decide +kernel
theorem dX6_byOrders_112 : decode cX6_byOrders 112 = .ok (.aload_n 0, 1) := by decide +kernel
theorem dX6_byOrders_113 : decode cX6_byOrders 113 = .ok (.iload_n 3, 1) := by decide +kernel
theorem dX6_byOrders_114 : decode cX6_byOrders 114 = .ok (.invokevirtual 193, 3) := by decide +kernel
theorem dX6_byOrders_117 : decode cX6_byOrders 117 = .ok (.ireturn, 1) := by decide +kernel
set_option maxRecDepth 20000 in
theorem ggX6_layParts_X6_n : GoodIn wsX6_layParts wsX6_n := goodIn_r _ [5, 6, 7, 8, 9, 10, 11, 12, 13, 14, 15, 16, 17, 18, 19, 20, 21, 22, 23, 24, 25, 26, 27] (by decide +kernel) (by decide +kernel)
set_option maxRecDepth 20000 in
theorem gX6_layParts_X6_n : GoodIn wsX6_layParts (wsV RX6 54 RX6 yX6_n wsX6_n) := goodIn_app (goodIn_of _ (by decide +kernel)) ggX6_layParts_X6_n
theorem dX6_layParts_0 : decode cX6_layParts 0 = .ok (.iconst 0, 1) := by decide +kernel
theorem dX6_layParts_1 : decode cX6_layParts 1 = .ok (.istore_n 3, 1) := by decide +kernel
theorem dX6_layParts_2 : decode cX6_layParts 2 = .ok (.iconst 0, 1) := by decide +kernel
theorem dX6_layParts_3 : decode cX6_layParts 3 = .ok (.istore 4, 2) := by decide +kernel
theorem dX6_layParts_5 : decode cX6_layParts 5 = .ok (.iconst 0, 1) := by decide +kernel
theorem dX6_layParts_6 : decode cX6_layParts 6 = .ok (.istore 5, 2) := by decide +kernel
theorem dX6_layParts_8 : decode cX6_layParts 8 = .ok (.iload 5, 2) := by decide +kernel
theorem dX6_layParts_10 : decode cX6_layParts 10 = .ok (.aload_n 0, 1) := by decide +kernel
theorem dX6_layParts_11 : decode cX6_layParts 11 = .ok (.invokevirtual 54, 3) := by decide +kernel
theorem dX6_layParts_14 : decode cX6_layParts 14 = .ok (.if_icmp .ge 44, 3) := by decide +kernel
theorem dX6_layParts_17 : decode cX6_layParts 17 = .ok (.iinc 4 1, 3) := by decide +kernel
theorem dX6_layParts_20 : decode cX6_layParts 20 = .ok (.iload 5, 2) := by decide +kernel
theorem dX6_layParts_22 : decode cX6_layParts 22 = .ok (.aload_n 0, 1) := by decide +kernel
theorem dX6_layParts_23 : decode cX6_layParts 23 = .ok (.invokevirtual 54, 3) := by decide +kernel
theorem dX6_layParts_26 : decode cX6_layParts 26 = .ok (.iconst 1, 1) := by decide +kernel
theorem dX6_layParts_27 : decode cX6_layParts 27 = .ok (.isub, 1) := by decide +kernel
theorem dX6_layParts_28 : decode cX6_layParts 28 = .ok (.if_icmp .eq 13, 3) := by decide +kernel
theorem dX6_layParts_31 : decode cX6_layParts 31 = .ok (.iload_n 1, 1) := by decide +kernel
theorem dX6_layParts_32 : decode cX6_layParts 32 = .ok (.iload 5, 2) := by decide +kernel
theorem dX6_layParts_34 : decode cX6_layParts 34 = .ok (.ishr, 1) := by decide +kernel
theorem dX6_layParts_35 : decode cX6_layParts 35 = .ok (.iconst 1, 1) := by decide +kernel
theorem dX6_layParts_36 : decode cX6_layParts 36 = .ok (.iand, 1) := by decide +kernel
theorem dX6_layParts_37 : decode cX6_layParts 37 = .ok (.iconst 1, 1) := by decide +kernel
theorem dX6_layParts_38 : decode cX6_layParts 38 = .ok (.if_icmp .ne 14, 3) := by decide +kernel
theorem dX6_layParts_41 : decode cX6_layParts 41 = .ok (.aload_n 2, 1) := by decide +kernel
theorem dX6_layParts_42 : decode cX6_layParts 42 = .ok (.iload_n 3, 1) := by decide +kernel
theorem dX6_layParts_43 : decode cX6_layParts 43 = .ok (.iload 4, 2) := by decide +kernel
theorem dX6_layParts_45 : decode cX6_layParts 45 = .ok (.iastore, 1) := by decide +kernel
theorem dX6_layParts_46 : decode cX6_layParts 46 = .ok (.iinc 3 1, 3) := by decide +kernel
theorem dX6_layParts_49 : decode cX6_layParts 49 = .ok (.iconst 0, 1) := by decide +kernel
theorem dX6_layParts_50 : decode cX6_layParts 50 = .ok (.istore 4, 2) := by decide +kernel
theorem dX6_layParts_52 : decode cX6_layParts 52 = .ok (.iinc 5 1, 3) := by decide +kernel
theorem dX6_layParts_55 : decode cX6_layParts 55 = .ok (.goto (-47), 3) := by decide +kernel
theorem dX6_layParts_58 : decode cX6_layParts 58 = .ok (.iload_n 3, 1) := by decide +kernel
theorem dX6_layParts_59 : decode cX6_layParts 59 = .ok (.ireturn, 1) := by decide +kernel
set_option maxRecDepth 20000 in
theorem ggX6_told_X6_n : GoodIn wsX6_told wsX6_n := goodIn_r _ [8, 9, 10, 11, 12, 13, 14, 15, 16, 17, 18, 19, 20, 21, 22, 23, 24, 25, 26, 27, 28, 29, 30] (by decide +kernel) (by decide +kernel)
set_option maxRecDepth 20000 in
theorem gX6_told_X6_n : GoodIn wsX6_told (wsV RX6 54 RX6 yX6_n wsX6_n) := goodIn_app (goodIn_of _ (by decide +kernel)) ggX6_told_X6_n
theorem dX6_told_0 : decode cX6_told 0 = .ok (.iconst 0, 1) := by decide +kernel
theorem dX6_told_1 : decode cX6_told 1 = .ok (.istore_n 1, 1) := by decide +kernel
theorem dX6_told_2 : decode cX6_told 2 = .ok (.iconst 0, 1) := by decide +kernel
theorem dX6_told_3 : decode cX6_told 3 = .ok (.istore_n 2, 1) := by decide +kernel
theorem dX6_told_4 : decode cX6_told 4 = .ok (.iconst 0, 1) := by decide +kernel
theorem dX6_told_5 : decode cX6_told 5 = .ok (.istore_n 3, 1) := by decide +kernel
theorem dX6_told_6 : decode cX6_told 6 = .ok (.iload_n 3, 1) := by decide +kernel
theorem dX6_told_7 : decode cX6_told 7 = .ok (.aload_n 0, 1) := by decide +kernel
theorem dX6_told_8 : decode cX6_told 8 = .ok (.getfield 200, 3) := by decide +kernel
theorem dX6_told_11 : decode cX6_told 11 = .ok (.aload_n 0, 1) := by decide +kernel
theorem dX6_told_12 : decode cX6_told 12 = .ok (.getfield 203, 3) := by decide +kernel
theorem dX6_told_15 : decode cX6_told 15 = .ok (.imul, 1) := by decide +kernel
theorem dX6_told_16 : decode cX6_told 16 = .ok (.if_icmp .ge 47, 3) := by decide +kernel
theorem dX6_told_19 : decode cX6_told 19 = .ok (.iload_n 2, 1) := by decide +kernel
theorem dX6_told_20 : decode cX6_told 20 = .ok (.aload_n 0, 1) := by decide +kernel
theorem dX6_told_21 : decode cX6_told 21 = .ok (.getfield 44, 3) := by decide +kernel
theorem dX6_told_24 : decode cX6_told 24 = .ok (.iload_n 3, 1) := by decide +kernel
theorem dX6_told_25 : decode cX6_told 25 = .ok (.iaload, 1) := by decide +kernel
theorem dX6_told_26 : decode cX6_told 26 = .ok (.iadd, 1) := by decide +kernel
theorem dX6_told_27 : decode cX6_told 27 = .ok (.istore_n 2, 1) := by decide +kernel
theorem dX6_told_28 : decode cX6_told 28 = .ok (.iload_n 1, 1) := by decide +kernel
theorem dX6_told_29 : decode cX6_told 29 = .ok (.aload_n 0, 1) := by decide +kernel
theorem dX6_told_30 : decode cX6_told 30 = .ok (.getfield 44, 3) := by decide +kernel
theorem dX6_told_33 : decode cX6_told 33 = .ok (.iload_n 3, 1) := by decide +kernel
theorem dX6_told_34 : decode cX6_told 34 = .ok (.iaload, 1) := by decide +kernel
theorem dX6_told_35 : decode cX6_told 35 = .ok (.ifCond .le 19, 3) := by decide +kernel
theorem dX6_told_38 : decode cX6_told 38 = .ok (.iload_n 2, 1) := by decide +kernel
theorem dX6_told_39 : decode cX6_told 39 = .ok (.aload_n 0, 1) := by decide +kernel
theorem dX6_told_40 : decode cX6_told 40 = .ok (.invokevirtual 54, 3) := by decide +kernel
theorem dX6_told_43 : decode cX6_told 43 = .ok (.if_icmp .ge 11, 3) := by decide +kernel
theorem dX6_told_46 : decode cX6_told 46 = .ok (.iconst 1, 1) := by decide +kernel
theorem dX6_told_47 : decode cX6_told 47 = .ok (.iload_n 2, 1) := by decide +kernel
theorem dX6_told_48 : decode cX6_told 48 = .ok (.iconst 1, 1) := by decide +kernel
theorem dX6_told_49 : decode cX6_told 49 = .ok (.isub, 1) := by decide +kernel
theorem dX6_told_50 : decode cX6_told 50 = .ok (.ishl, 1) := by decide +kernel
theorem dX6_told_51 : decode cX6_told 51 = .ok (.goto 4, 3) := by decide +kernel
theorem dX6_told_54 : decode cX6_told 54 = .ok (.iconst 0, 1) := by decide +kernel
theorem dX6_told_55 : decode cX6_told 55 = .ok (.ior, 1) := by decide +kernel
theorem dX6_told_56 : decode cX6_told 56 = .ok (.istore_n 1, 1) := by decide +kernel
theorem dX6_told_57 : decode cX6_told 57 = .ok (.iinc 3 1, 3) := by decide +kernel
theorem dX6_told_60 : decode cX6_told 60 = .ok (.goto (-54), 3) := by decide +kernel
theorem dX6_told_63 : decode cX6_told 63 = .ok (.iload_n 1, 1) := by decide +kernel
theorem dX6_told_64 : decode cX6_told 64 = .ok (.ireturn, 1) := by decide +kernel
theorem dX6_puts_0 : decode cX6_puts 0 = .ok (.iload_n 2, 1) := by decide +kernel
theorem dX6_puts_1 : decode cX6_puts 1 = .ok (.aload_n 0, 1) := by decide +kernel
theorem dX6_puts_2 : decode cX6_puts 2 = .ok (.getfield 44, 3) := by decide +kernel
theorem dX6_puts_5 : decode cX6_puts 5 = .ok (.iload_n 1, 1) := by decide +kernel
theorem dX6_puts_6 : decode cX6_puts 6 = .ok (.iaload, 1) := by decide +kernel
theorem dX6_puts_7 : decode cX6_puts 7 = .ok (.ifCond .ge 7, 3) := by decide +kernel
theorem dX6_puts_10 : decode cX6_puts 10 = .ok (.iconst 0, 1) := by decide +kernel
theorem dX6_puts_11 : decode cX6_puts 11 = .ok (.goto 9, 3) := by decide +kernel
theorem dX6_puts_14 : decode cX6_puts 14 = .ok (.aload_n 0, 1) := by decide +kernel
theorem dX6_puts_15 : decode cX6_puts 15 = .ok (.getfield 44, 3) := by decide +kernel
theorem dX6_puts_18 : decode cX6_puts 18 = .ok (.iload_n 1, 1) := by decide +kernel
theorem dX6_puts_19 : decode cX6_puts 19 = .ok (.iaload, 1) := by decide +kernel
theorem dX6_puts_20 : decode cX6_puts 20 = .ok (.isub, 1) := by decide +kernel
theorem dX6_puts_21 : decode cX6_puts 21 = .ok (.istore_n 3, 1) := by decide +kernel
theorem dX6_puts_22 : decode cX6_puts 22 = .ok (.aload_n 0, 1) := by decide +kernel
theorem dX6_puts_23 : decode cX6_puts 23 = .ok (.getfield 38, 3) := by decide +kernel
theorem dX6_puts_26 : decode cX6_puts 26 = .ok (.iload_n 1, 1) := by decide +kernel
theorem dX6_puts_27 : decode cX6_puts 27 = .ok (.aload_n 0, 1) := by decide +kernel
theorem dX6_puts_28 : decode cX6_puts 28 = .ok (.getfield 203, 3) := by decide +kernel
theorem dX6_puts_31 : decode cX6_puts 31 = .ok (.idiv, 1) := by decide +kernel
theorem dX6_puts_32 : decode cX6_puts 32 = .ok (.dup2, 1) := by decide +kernel
theorem dX6_puts_33 : decode cX6_puts 33 = .ok (.iaload, 1) := by decide +kernel
theorem dX6_puts_34 : decode cX6_puts 34 = .ok (.iload_n 3, 1) := by decide +kernel
theorem dX6_puts_35 : decode cX6_puts 35 = .ok (.isub, 1) := by decide +kernel
theorem dX6_puts_36 : decode cX6_puts 36 = .ok (.iastore, 1) := by decide +kernel
theorem dX6_puts_37 : decode cX6_puts 37 = .ok (.aload_n 0, 1) := by decide +kernel
theorem dX6_puts_38 : decode cX6_puts 38 = .ok (.getfield 41, 3) := by decide +kernel
theorem dX6_puts_41 : decode cX6_puts 41 = .ok (.iload_n 1, 1) := by decide +kernel
theorem dX6_puts_42 : decode cX6_puts 42 = .ok (.aload_n 0, 1) := by decide +kernel
theorem dX6_puts_43 : decode cX6_puts 43 = .ok (.getfield 203, 3) := by decide +kernel
theorem dX6_puts_46 : decode cX6_puts 46 = .ok (.irem, 1) := by decide +kernel
theorem dX6_puts_47 : decode cX6_puts 47 = .ok (.dup2, 1) := by decide +kernel
theorem dX6_puts_48 : decode cX6_puts 48 = .ok (.iaload, 1) := by decide +kernel
theorem dX6_puts_49 : decode cX6_puts 49 = .ok (.iload_n 3, 1) := by decide +kernel
theorem dX6_puts_50 : decode cX6_puts 50 = .ok (.isub, 1) := by decide +kernel
theorem dX6_puts_51 : decode cX6_puts 51 = .ok (.iastore, 1) := by decide +kernel
theorem dX6_puts_52 : decode cX6_puts 52 = .ok (.aload_n 0, 1) := by decide +kernel
theorem dX6_puts_53 : decode cX6_puts 53 = .ok (.getfield 44, 3) := by decide +kernel
theorem dX6_puts_56 : decode cX6_puts 56 = .ok (.iload_n 1, 1) := by decide +kernel
theorem dX6_puts_57 : decode cX6_puts 57 = .ok (.iload_n 2, 1) := by decide +kernel
theorem dX6_puts_58 : decode cX6_puts 58 = .ok (.iastore, 1) := by decide +kernel
theorem dX6_puts_59 : decode cX6_puts 59 = .ok (.return_, 1) := by decide +kernel
set_option maxRecDepth 20000 in
theorem ggX6_putsNext_X6_puts : GoodIn wsX6_putsNext wsX6_puts := goodIn_r _ [9, 2, 3, 1, 4, 10, 11, 12, 13, 14, 15, 16, 17, 18, 19, 20, 21, 22, 23, 24, 25, 26, 27, 28, 29, 30] (by decide +kernel) (by decide +kernel)
set_option maxRecDepth 20000 in
theorem gX6_putsNext_X6_puts : GoodIn wsX6_putsNext (wsV RX6 206 RX6 yX6_puts wsX6_puts) := goodIn_app (goodIn_of _ (by decide +kernel)) ggX6_putsNext_X6_puts
theorem dX6_putsNext_0 : decode cX6_putsNext 0 = .ok (.iload_n 1, 1) := by decide +kernel
theorem dX6_putsNext_1 : decode cX6_putsNext 1 = .ok (.aload_n 0, 1) := by decide +kernel
theorem dX6_putsNext_2 : decode cX6_putsNext 2 = .ok (.getfield 203, 3) := by decide +kernel
theorem dX6_putsNext_5 : decode cX6_putsNext 5 = .ok (.idiv, 1) := by decide +kernel
theorem dX6_putsNext_6 : decode cX6_putsNext 6 = .ok (.istore_n 2, 1) := by decide +kernel
theorem dX6_putsNext_7 : decode cX6_putsNext 7 = .ok (.iload_n 1, 1) := by decide +kernel
theorem dX6_putsNext_8 : decode cX6_putsNext 8 = .ok (.aload_n 0, 1) := by decide +kernel
theorem dX6_putsNext_9 : decode cX6_putsNext 9 = .ok (.getfield 203, 3) := by decide +kernel
theorem dX6_putsNext_12 : decode cX6_putsNext 12 = .ok (.irem, 1) := by decide +kernel
theorem dX6_putsNext_13 : decode cX6_putsNext 13 = .ok (.istore_n 3, 1) := by decide +kernel
theorem dX6_putsNext_14 : decode cX6_putsNext 14 = .ok (.aload_n 0, 1) := by decide +kernel
theorem dX6_putsNext_15 : decode cX6_putsNext 15 = .ok (.getfield 44, 3) := by decide +kernel
theorem dX6_putsNext_18 : decode cX6_putsNext 18 = .ok (.iload_n 1, 1) := by decide +kernel
theorem dX6_putsNext_19 : decode cX6_putsNext 19 = .ok (.iaload, 1) := by decide +kernel
theorem dX6_putsNext_20 : decode cX6_putsNext 20 = .ok (.iconst 1, 1) := by decide +kernel
theorem dX6_putsNext_21 : decode cX6_putsNext 21 = .ok (.iadd, 1) := by decide +kernel
theorem dX6_putsNext_22 : decode cX6_putsNext 22 = .ok (.istore 4, 2) := by decide +kernel
theorem dX6_putsNext_24 : decode cX6_putsNext 24 = .ok (.aload_n 0, 1) := by decide +kernel
theorem dX6_putsNext_25 : decode cX6_putsNext 25 = .ok (.getfield 44, 3) := by decide +kernel
theorem dX6_putsNext_28 : decode cX6_putsNext 28 = .ok (.iload_n 1, 1) := by decide +kernel
theorem dX6_putsNext_29 : decode cX6_putsNext 29 = .ok (.iaload, 1) := by decide +kernel
theorem dX6_putsNext_30 : decode cX6_putsNext 30 = .ok (.ifCond .ge 7, 3) := by decide +kernel
theorem dX6_putsNext_33 : decode cX6_putsNext 33 = .ok (.iconst 0, 1) := by decide +kernel
theorem dX6_putsNext_34 : decode cX6_putsNext 34 = .ok (.goto 9, 3) := by decide +kernel
theorem dX6_putsNext_37 : decode cX6_putsNext 37 = .ok (.aload_n 0, 1) := by decide +kernel
theorem dX6_putsNext_38 : decode cX6_putsNext 38 = .ok (.getfield 44, 3) := by decide +kernel
theorem dX6_putsNext_41 : decode cX6_putsNext 41 = .ok (.iload_n 1, 1) := by decide +kernel
theorem dX6_putsNext_42 : decode cX6_putsNext 42 = .ok (.iaload, 1) := by decide +kernel
theorem dX6_putsNext_43 : decode cX6_putsNext 43 = .ok (.istore 5, 2) := by decide +kernel
theorem dX6_putsNext_45 : decode cX6_putsNext 45 = .ok (.iload 4, 2) := by decide +kernel
theorem dX6_putsNext_47 : decode cX6_putsNext 47 = .ok (.iload 5, 2) := by decide +kernel
theorem dX6_putsNext_49 : decode cX6_putsNext 49 = .ok (.isub, 1) := by decide +kernel
theorem dX6_putsNext_50 : decode cX6_putsNext 50 = .ok (.aload_n 0, 1) := by decide +kernel
theorem dX6_putsNext_51 : decode cX6_putsNext 51 = .ok (.getfield 38, 3) := by decide +kernel
theorem dX6_putsNext_54 : decode cX6_putsNext 54 = .ok (.iload_n 2, 1) := by decide +kernel
theorem dX6_putsNext_55 : decode cX6_putsNext 55 = .ok (.iaload, 1) := by decide +kernel
theorem dX6_putsNext_56 : decode cX6_putsNext 56 = .ok (.if_icmp .gt 17, 3) := by decide +kernel
theorem dX6_putsNext_59 : decode cX6_putsNext 59 = .ok (.iload 4, 2) := by decide +kernel
theorem dX6_putsNext_61 : decode cX6_putsNext 61 = .ok (.iload 5, 2) := by decide +kernel
theorem dX6_putsNext_63 : decode cX6_putsNext 63 = .ok (.isub, 1) := by decide +kernel
theorem dX6_putsNext_64 : decode cX6_putsNext 64 = .ok (.aload_n 0, 1) := by decide +kernel
theorem dX6_putsNext_65 : decode cX6_putsNext 65 = .ok (.getfield 41, 3) := by decide +kernel
theorem dX6_putsNext_68 : decode cX6_putsNext 68 = .ok (.iload_n 3, 1) := by decide +kernel
theorem dX6_putsNext_69 : decode cX6_putsNext 69 = .ok (.iaload, 1) := by decide +kernel
theorem dX6_putsNext_70 : decode cX6_putsNext 70 = .ok (.if_icmp .le 5, 3) := by decide +kernel
theorem dX6_putsNext_73 : decode cX6_putsNext 73 = .ok (.iconst 0, 1) := by decide +kernel
theorem dX6_putsNext_74 : decode cX6_putsNext 74 = .ok (.ireturn, 1) := by decide +kernel
theorem dX6_putsNext_75 : decode cX6_putsNext 75 = .ok (.aload_n 0, 1) := by decide +kernel
theorem dX6_putsNext_76 : decode cX6_putsNext 76 = .ok (.iload_n 1, 1) := by decide +kernel
theorem dX6_putsNext_77 : decode cX6_putsNext 77 = .ok (.iload 4, 2) := by decide +kernel
theorem dX6_putsNext_79 : decode cX6_putsNext 79 = .ok (.invokevirtual 206, 3) := by decide +kernel
theorem dX6_putsNext_82 : decode cX6_putsNext 82 = .ok (.iconst 1, 1) := by decide +kernel
theorem dX6_putsNext_83 : decode cX6_putsNext 83 = .ok (.ireturn, 1) := by decide +kernel
theorem dX6_isWhole_0 : decode cX6_isWhole 0 = .ok (.iload_n 1, 1) := by decide +kernel
theorem dX6_isWhole_1 : decode cX6_isWhole 1 = .ok (.aload_n 0, 1) := by decide +kernel
theorem dX6_isWhole_2 : decode cX6_isWhole 2 = .ok (.getfield 203, 3) := by decide +kernel
theorem dX6_isWhole_5 : decode cX6_isWhole 5 = .ok (.irem, 1) := by decide +kernel
theorem dX6_isWhole_6 : decode cX6_isWhole 6 = .ok (.aload_n 0, 1) := by decide +kernel
theorem dX6_isWhole_7 : decode cX6_isWhole 7 = .ok (.getfield 203, 3) := by decide +kernel
theorem dX6_isWhole_10 : decode cX6_isWhole 10 = .ok (.iconst 1, 1) := by decide +kernel
theorem dX6_isWhole_11 : decode cX6_isWhole 11 = .ok (.isub, 1) := by decide +kernel
theorem dX6_isWhole_12 : decode cX6_isWhole 12 = .ok (.if_icmp .lt 17, 3) := by decide +kernel
theorem dX6_isWhole_15 : decode cX6_isWhole 15 = .ok (.aload_n 0, 1) := by decide +kernel
theorem dX6_isWhole_16 : decode cX6_isWhole 16 = .ok (.getfield 38, 3) := by decide +kernel
theorem dX6_isWhole_19 : decode cX6_isWhole 19 = .ok (.iload_n 1, 1) := by decide +kernel
theorem dX6_isWhole_20 : decode cX6_isWhole 20 = .ok (.aload_n 0, 1) := by decide +kernel
theorem dX6_isWhole_21 : decode cX6_isWhole 21 = .ok (.getfield 203, 3) := by decide +kernel
theorem dX6_isWhole_24 : decode cX6_isWhole 24 = .ok (.idiv, 1) := by decide +kernel
theorem dX6_isWhole_25 : decode cX6_isWhole 25 = .ok (.iaload, 1) := by decide +kernel
theorem dX6_isWhole_26 : decode cX6_isWhole 26 = .ok (.ifCond .ne 36, 3) := by decide +kernel
theorem dX6_isWhole_29 : decode cX6_isWhole 29 = .ok (.iload_n 1, 1) := by decide +kernel
theorem dX6_isWhole_30 : decode cX6_isWhole 30 = .ok (.aload_n 0, 1) := by decide +kernel
theorem dX6_isWhole_31 : decode cX6_isWhole 31 = .ok (.getfield 203, 3) := by decide +kernel
theorem dX6_isWhole_34 : decode cX6_isWhole 34 = .ok (.idiv, 1) := by decide +kernel
theorem dX6_isWhole_35 : decode cX6_isWhole 35 = .ok (.aload_n 0, 1) := by decide +kernel
theorem dX6_isWhole_36 : decode cX6_isWhole 36 = .ok (.getfield 200, 3) := by decide +kernel
theorem dX6_isWhole_39 : decode cX6_isWhole 39 = .ok (.iconst 1, 1) := by decide +kernel
theorem dX6_isWhole_40 : decode cX6_isWhole 40 = .ok (.isub, 1) := by decide +kernel
theorem dX6_isWhole_41 : decode cX6_isWhole 41 = .ok (.if_icmp .lt 17, 3) := by decide +kernel
theorem dX6_isWhole_44 : decode cX6_isWhole 44 = .ok (.aload_n 0, 1) := by decide +kernel
theorem dX6_isWhole_45 : decode cX6_isWhole 45 = .ok (.getfield 41, 3) := by decide +kernel
theorem dX6_isWhole_48 : decode cX6_isWhole 48 = .ok (.iload_n 1, 1) := by decide +kernel
theorem dX6_isWhole_49 : decode cX6_isWhole 49 = .ok (.aload_n 0, 1) := by decide +kernel
theorem dX6_isWhole_50 : decode cX6_isWhole 50 = .ok (.getfield 203, 3) := by decide +kernel
theorem dX6_isWhole_53 : decode cX6_isWhole 53 = .ok (.irem, 1) := by decide +kernel
theorem dX6_isWhole_54 : decode cX6_isWhole 54 = .ok (.iaload, 1) := by decide +kernel
theorem dX6_isWhole_55 : decode cX6_isWhole 55 = .ok (.ifCond .ne 7, 3) := by decide +kernel
theorem dX6_isWhole_58 : decode cX6_isWhole 58 = .ok (.iconst 1, 1) := by decide +kernel
theorem dX6_isWhole_59 : decode cX6_isWhole 59 = .ok (.goto 4, 3) := by decide +kernel
theorem dX6_isWhole_62 : decode cX6_isWhole 62 = .ok (.iconst 0, 1) := by decide +kernel
theorem dX6_isWhole_63 : decode cX6_isWhole 63 = .ok (.ireturn, 1) := by decide +kernel
set_option maxRecDepth 20000 in
theorem ggX6_byTables_X6_isSet : GoodIn wsX6_byTables wsX6_isSet := goodIn_r _ [11, 12, 13, 14, 10, 15, 16, 17, 18, 19, 40, 41, 42, 43, 44, 45, 46, 47, 48, 49, 50, 51, 52, 53, 54, 55, 56, 57, 58, 59, 60] (by decide +kernel) (by decide +kernel)
set_option maxRecDepth 20000 in
theorem gX6_byTables_X6_isSet : GoodIn wsX6_byTables (wsV RX6 145 RX6 yX6_isSet wsX6_isSet) := goodIn_app (goodIn_of _ (by decide +kernel)) ggX6_byTables_X6_isSet
set_option maxRecDepth 20000 in
theorem ggX6_byTables_X6_layParts : GoodIn wsX6_byTables wsX6_layParts := goodIn_r _ [23, 12, 13, 14, 10, 15, 16, 40, 41, 42, 43, 44, 45, 46, 47, 48, 49, 50, 51, 52, 53, 54, 55, 56, 57, 58, 59, 60] (by decide +kernel) (by decide +kernel)
set_option maxRecDepth 20000 in
theorem gX6_byTables_X6_layParts : GoodIn wsX6_byTables (wsV RX6 209 RX6 yX6_layParts wsX6_layParts) := goodIn_app (goodIn_of _ (by decide +kernel)) ggX6_byTables_X6_layParts
set_option maxRecDepth 20000 in
theorem ggX6_byTables_X6_told : GoodIn wsX6_byTables wsX6_told := goodIn_r _ [27, 5, 3, 6, 12, 13, 14, 10, 15, 16, 40, 41, 42, 43, 44, 45, 46, 47, 48, 49, 50, 51, 52, 53, 54, 55, 56, 57, 58, 59, 60] (by decide +kernel) (by decide +kernel)
set_option maxRecDepth 20000 in
theorem gX6_byTables_X6_told : GoodIn wsX6_byTables (wsV RX6 213 RX6 yX6_told wsX6_told) := goodIn_app (goodIn_of _ (by decide +kernel)) ggX6_byTables_X6_told
set_option maxRecDepth 20000 in
theorem ggX6_byTables_X6_putsNext : GoodIn wsX6_byTables wsX6_putsNext := goodIn_r _ [31, 3, 6, 4, 2, 32, 33, 34, 10, 35, 40, 41, 42, 43, 44, 45, 46, 47, 48, 49, 50, 51, 52, 53, 54, 55, 56, 57, 58, 59, 60] (by decide +kernel) (by decide +kernel)
set_option maxRecDepth 20000 in
theorem gX6_byTables_X6_putsNext : GoodIn wsX6_byTables (wsV RX6 216 RX6 yX6_putsNext wsX6_putsNext) := goodIn_app (goodIn_of _ (by decide +kernel)) ggX6_byTables_X6_putsNext
set_option maxRecDepth 20000 in
theorem ggX6_byTables_X6_puts : GoodIn wsX6_byTables wsX6_puts := goodIn_r _ [35, 6, 4, 3, 2, 40, 41, 42, 43, 44, 45, 46, 47, 48, 49, 50, 51, 52, 53, 54, 55, 56, 57, 58, 59, 60] (by decide +kernel) (by decide +kernel)
set_option maxRecDepth 20000 in
theorem gX6_byTables_X6_puts : GoodIn wsX6_byTables (wsV RX6 206 RX6 yX6_puts wsX6_puts) := goodIn_app (goodIn_of _ (by decide +kernel)) ggX6_byTables_X6_puts
set_option maxRecDepth 20000 in
theorem ggX6_byTables_X6_isWhole : GoodIn wsX6_byTables wsX6_isWhole := goodIn_r _ [39, 3, 4, 5, 2, 40, 41, 42, 43, 44, 45, 46, 47, 48, 49, 50, 51, 52, 53, 54, 55, 56, 57, 58, 59, 60] (by decide +kernel) (by decide +kernel)
set_option maxRecDepth 20000 in
theorem gX6_byTables_X6_isWhole : GoodIn wsX6_byTables (wsV RX6 219 RX6 yX6_isWhole wsX6_isWhole) := goodIn_app (goodIn_of _ (by decide +kernel)) ggX6_byTables_X6_isWhole
theorem dX6_byTables_0 : decode cX6_byTables 0 = .ok (.aload_n 0, 1) := by decide +kernel
