theorem dX5_begin_31 : decode cX5_begin 31 = .ok (.istore_n 2, 1) := by decide +kernel
theorem dX5_begin_32 : decode cX5_begin 32 = .ok (.iload_n 2, 1) := by decide +kernel
theorem dX5_begin_33 : decode cX5_begin 33 = .ok (.iconst 3, 1) := by decide +kernel
theorem dX5_begin_34 : decode cX5_begin 34 = .ok (.if_icmp .ge 32, 3) := by decide +kernel
theorem dX5_begin_37 : decode cX5_begin 37 = .ok (.iconst 0, 1) := by decide +kernel
theorem dX5_begin_38 : decode cX5_begin 38 = .ok (.istore_n 3, 1) := by decide +kernel
theorem dX5_begin_39 : decode cX5_begin 39 = .ok (.iload_n 3, 1) := by decide +kernel
theorem dX5_begin_40 : decode cX5_begin 40 = .ok (.bipush 120, 2) := by decide +kernel
theorem dX5_begin_42 : decode cX5_begin 42 = .ok (.if_icmp .ge 18, 3) := by decide +kernel
theorem dX5_begin_45 : decode cX5_begin 45 = .ok (.aload_n 0, 1) := by decide +kernel
theorem dX5_begin_46 : decode cX5_begin 46 = .ok (.getfield 17, 3) := by decide +kernel
theorem dX5_begin_49 : decode cX5_begin 49 = .ok (.iload_n 2, 1) := by decide +kernel
theorem dX5_begin_50 : decode cX5_begin 50 = .ok (.aaload, 1) := by decide +kernel
theorem dX5_begin_51 : decode cX5_begin 51 = .ok (.iload_n 3, 1) := by decide +kernel
theorem dX5_begin_52 : decode cX5_begin 52 = .ok (.iconst 0, 1) := by decide +kernel
theorem dX5_begin_53 : decode cX5_begin 53 = .ok (.iastore, 1) := by decide +kernel
theorem dX5_begin_54 : decode cX5_begin 54 = .ok (.iinc 3 1, 3) := by decide +kernel
theorem dX5_begin_57 : decode cX5_begin 57 = .ok (.goto (-18), 3) := by decide +kernel
theorem dX5_begin_60 : decode cX5_begin 60 = .ok (.iinc 2 1, 3) := by decide +kernel
theorem dX5_begin_63 : decode cX5_begin 63 = .ok (.goto (-31), 3) := by decide +kernel
theorem dX5_begin_66 : decode cX5_begin 66 = .ok (.aload_n 0, 1) := by decide +kernel
theorem dX5_begin_67 : decode cX5_begin 67 = .ok (.aload_n 0, 1) := by decide +kernel
theorem dX5_begin_68 : decode cX5_begin 68 = .ok (.iload_n 1, 1) := by decide +kernel
theorem dX5_begin_69 : decode cX5_begin 69 = .ok (.invokevirtual 55, 3) := by decide +kernel
theorem dX5_begin_72 : decode cX5_begin 72 = .ok (.putfield 59, 3) := by decide +kernel
theorem dX5_begin_75 : decode cX5_begin 75 = .ok (.aload_n 0, 1) := by decide +kernel
theorem dX5_begin_76 : decode cX5_begin 76 = .ok (.getfield 59, 3) := by decide +kernel
theorem dX5_begin_79 : decode cX5_begin 79 = .ok (.getfield 76, 3) := by decide +kernel
theorem dX5_begin_82 : decode cX5_begin 82 = .ok (.ireturn, 1) := by decide +kernel
set_option maxRecDepth 20000 in
theorem ggX5_add_X5_isSum : GoodIn wsX5_add wsX5_isSum := goodIn_r _ [6, 7, 8, 5, 9] (by decide +kernel) (by decide +kernel)
set_option maxRecDepth 20000 in
theorem gX5_add_X5_isSum : GoodIn wsX5_add (va_wsS RX5 79 yX5_isSum wsX5_isSum) := goodIn_app (goodIn_of _ (by decide +kernel)) ggX5_add_X5_isSum
set_option maxRecDepth 20000 in
theorem ggX5_add_X5_isOrder : GoodIn wsX5_add wsX5_isOrder := goodIn_r _ [13, 14, 15, 7, 8, 5, 9, 47, 48, 49, 50, 51, 52, 53, 54, 55, 56, 57, 58, 59, 60, 61, 62, 63, 64, 65, 66] (by decide +kernel) (by decide +kernel)
set_option maxRecDepth 20000 in
theorem gX5_add_X5_isOrder : GoodIn wsX5_add (wsV RX5 83 RX5 yX5_isOrder wsX5_isOrder) := goodIn_app (goodIn_of _ (by decide +kernel)) ggX5_add_X5_isOrder
set_option maxRecDepth 20000 in
theorem ggX5_add_X5_isWithin : GoodIn wsX5_add wsX5_isWithin := goodIn_r _ [9] (by decide +kernel) (by decide +kernel)
set_option maxRecDepth 20000 in
theorem gX5_add_X5_isWithin : GoodIn wsX5_add (va_wsS RX5 63 yX5_isWithin wsX5_isWithin) := goodIn_app (goodIn_of _ (by decide +kernel)) ggX5_add_X5_isWithin
set_option maxRecDepth 20000 in
theorem ggX5_add_X5_makeCopyOf : GoodIn wsX5_add wsX5_makeCopyOf := goodIn_r _ [19, 14, 15, 2, 20, 47, 48, 49, 50, 51, 52, 53, 54, 55, 56, 57, 58, 59, 60, 61, 62, 63, 64, 65, 66] (by decide +kernel) (by decide +kernel)
set_option maxRecDepth 20000 in
theorem gX5_add_X5_makeCopyOf : GoodIn wsX5_add (wsV RX5 86 RX5 yX5_makeCopyOf wsX5_makeCopyOf) := goodIn_app (goodIn_of _ (by decide +kernel)) ggX5_add_X5_makeCopyOf
set_option maxRecDepth 20000 in
theorem ggX5_add_X5_settle : GoodIn wsX5_add wsX5_settle := goodIn_r _ [24, 14, 15, 2, 25, 26, 27, 28, 29, 20, 30, 31, 32, 33, 34, 35, 36, 37, 38, 39, 40, 41, 42, 43, 44, 45, 46, 47, 48, 49, 50, 51, 52, 53, 54, 55, 56, 57, 58, 59, 60, 61, 62, 63, 64, 65, 66, 67, 68, 69, 70] (by decide +kernel) (by decide +kernel)
set_option maxRecDepth 20000 in
theorem gX5_add_X5_settle : GoodIn wsX5_add (wsV RX5 90 RX5 yX5_settle wsX5_settle) := goodIn_app (goodIn_of _ (by decide +kernel)) ggX5_add_X5_settle
theorem dX5_add_0 : decode cX5_add 0 = .ok (.iload_n 1, 1) := by decide +kernel
theorem dX5_add_1 : decode cX5_add 1 = .ok (.invokestatic 79, 3) := by decide +kernel
theorem dX5_add_4 : decode cX5_add 4 = .ok (.ifCond .eq 24, 3) := by decide +kernel
theorem dX5_add_7 : decode cX5_add 7 = .ok (.aload_n 0, 1) := by decide +kernel
theorem dX5_add_8 : decode cX5_add 8 = .ok (.iload_n 2, 1) := by decide +kernel
theorem dX5_add_9 : decode cX5_add 9 = .ok (.invokevirtual 83, 3) := by decide +kernel
theorem dX5_add_12 : decode cX5_add 12 = .ok (.ifCond .eq 16, 3) := by decide +kernel
theorem dX5_add_15 : decode cX5_add 15 = .ok (.iload_n 3, 1) := by decide +kernel
theorem dX5_add_16 : decode cX5_add 16 = .ok (.sipush (-999), 3) := by decide +kernel
theorem dX5_add_19 : decode cX5_add 19 = .ok (.sipush 999, 3) := by decide +kernel
theorem dX5_add_22 : decode cX5_add 22 = .ok (.invokestatic 63, 3) := by decide +kernel
theorem dX5_add_25 : decode cX5_add 25 = .ok (.ifCond .ne 6, 3) := by decide +kernel
theorem dX5_add_28 : decode cX5_add 28 = .ok (.ldc 67, 2) := by decide +kernel
theorem dX5_add_30 : decode cX5_add 30 = .ok (.ireturn, 1) := by decide +kernel
theorem dX5_add_31 : decode cX5_add 31 = .ok (.aload_n 0, 1) := by decide +kernel
theorem dX5_add_32 : decode cX5_add 32 = .ok (.iload_n 1, 1) := by decide +kernel
theorem dX5_add_33 : decode cX5_add 33 = .ok (.invokevirtual 86, 3) := by decide +kernel
theorem dX5_add_36 : decode cX5_add 36 = .ok (.aload_n 0, 1) := by decide +kernel
theorem dX5_add_37 : decode cX5_add 37 = .ok (.getfield 20, 3) := by decide +kernel
theorem dX5_add_40 : decode cX5_add 40 = .ok (.iload_n 2, 1) := by decide +kernel
theorem dX5_add_41 : decode cX5_add 41 = .ok (.dup2, 1) := by decide +kernel
theorem dX5_add_42 : decode cX5_add 42 = .ok (.laload, 1) := by decide +kernel
theorem dX5_add_43 : decode cX5_add 43 = .ok (.iload_n 3, 1) := by decide +kernel
theorem dX5_add_44 : decode cX5_add 44 = .ok (.i2l, 1) := by decide +kernel
theorem dX5_add_45 : decode cX5_add 45 = .ok (.ladd, 1) := by decide +kernel
theorem dX5_add_46 : decode cX5_add 46 = .ok (.lastore, 1) := by decide +kernel
theorem dX5_add_47 : decode cX5_add 47 = .ok (.aload_n 0, 1) := by decide +kernel
theorem dX5_add_48 : decode cX5_add 48 = .ok (.iload_n 1, 1) := by decide +kernel
theorem dX5_add_49 : decode cX5_add 49 = .ok (.aload_n 0, 1) := by decide +kernel
theorem dX5_add_50 : decode cX5_add 50 = .ok (.getfield 20, 3) := by decide +kernel
theorem dX5_add_53 : decode cX5_add 53 = .ok (.iload_n 2, 1) := by decide +kernel
theorem dX5_add_54 : decode cX5_add 54 = .ok (.laload, 1) := by decide +kernel
theorem dX5_add_55 : decode cX5_add 55 = .ok (.l2i, 1) := by decide +kernel
theorem dX5_add_56 : decode cX5_add 56 = .ok (.invokevirtual 90, 3) := by decide +kernel
theorem dX5_add_59 : decode cX5_add 59 = .ok (.ireturn, 1) := by decide +kernel
set_option maxRecDepth 20000 in
theorem ggX5_addClass_X5_isSum : GoodIn wsX5_addClass wsX5_isSum := goodIn_r _ [9, 10, 11, 8, 12] (by decide +kernel) (by decide +kernel)
set_option maxRecDepth 20000 in
theorem gX5_addClass_X5_isSum : GoodIn wsX5_addClass (va_wsS RX5 79 yX5_isSum wsX5_isSum) := goodIn_app (goodIn_of _ (by decide +kernel)) ggX5_addClass_X5_isSum
set_option maxRecDepth 20000 in
theorem ggX5_addClass_X5_isSet : GoodIn wsX5_addClass wsX5_isSet := goodIn_r _ [16, 2, 17, 10, 11, 8, 12, 55, 56, 57, 58, 59, 60, 61, 62, 63, 64, 65, 66, 67, 68, 69, 70, 71, 72, 73, 74] (by decide +kernel) (by decide +kernel)
set_option maxRecDepth 20000 in
theorem gX5_addClass_X5_isSet : GoodIn wsX5_addClass (wsV RX5 94 RX5 yX5_isSet wsX5_isSet) := goodIn_app (goodIn_of _ (by decide +kernel)) ggX5_addClass_X5_isSet
set_option maxRecDepth 20000 in
theorem ggX5_addClass_X5_isWithin : GoodIn wsX5_addClass wsX5_isWithin := goodIn_r _ [12] (by decide +kernel) (by decide +kernel)
set_option maxRecDepth 20000 in
theorem gX5_addClass_X5_isWithin : GoodIn wsX5_addClass (va_wsS RX5 63 yX5_isWithin wsX5_isWithin) := goodIn_app (goodIn_of _ (by decide +kernel)) ggX5_addClass_X5_isWithin
set_option maxRecDepth 20000 in
theorem ggX5_addClass_X5_makeCopyOf : GoodIn wsX5_addClass wsX5_makeCopyOf := goodIn_r _ [21, 2, 3, 5, 22, 55, 56, 57, 58, 59, 60, 61, 62, 63, 64, 65, 66, 67, 68, 69, 70, 71, 72, 73, 74] (by decide +kernel) (by decide +kernel)
set_option maxRecDepth 20000 in
theorem gX5_addClass_X5_makeCopyOf : GoodIn wsX5_addClass (wsV RX5 86 RX5 yX5_makeCopyOf wsX5_makeCopyOf) := goodIn_app (goodIn_of _ (by decide +kernel)) ggX5_addClass_X5_makeCopyOf
set_option maxRecDepth 20000 in
theorem ggX5_addClass_X1_isInWideClass : GoodIn wsX5_addClass wsX1_isInWideClass := goodIn_r _ [27, 28, 64, 65, 66, 67, 68, 69, 70, 71, 72, 73, 74] (by decide +kernel) (by decide +kernel)
set_option maxRecDepth 20000 in
theorem gX5_addClass_X1_isInWideClass : GoodIn wsX5_addClass (wsV RX5 97 RX1 yX1_isInWideClass wsX1_isInWideClass) := goodIn_app (goodIn_of _ (by decide +kernel)) ggX5_addClass_X1_isInWideClass
set_option maxRecDepth 20000 in
theorem ggX5_addClass_X5_settle : GoodIn wsX5_addClass wsX5_settle := goodIn_r _ [32, 2, 3, 5, 33, 34, 35, 36, 37, 22, 38, 39, 40, 41, 42, 43, 44, 45, 46, 47, 48, 49, 50, 51, 52, 53, 54, 55, 56, 57, 58, 59, 60, 61, 62, 63, 64, 65, 66, 67, 68, 69, 70, 71, 72, 73, 74, 75, 76, 77, 78] (by decide +kernel) (by decide +kernel)
set_option maxRecDepth 20000 in
theorem gX5_addClass_X5_settle : GoodIn wsX5_addClass (wsV RX5 90 RX5 yX5_settle wsX5_settle) := goodIn_app (goodIn_of _ (by decide +kernel)) ggX5_addClass_X5_settle
theorem dX5_addClass_0 : decode cX5_addClass 0 = .ok (.iload_n 1, 1) := by decide +kernel
theorem dX5_addClass_1 : decode cX5_addClass 1 = .ok (.invokestatic 79, 3) := by decide +kernel
theorem dX5_addClass_4 : decode cX5_addClass 4 = .ok (.ifCond .eq 34, 3) := by decide +kernel
theorem dX5_addClass_7 : decode cX5_addClass 7 = .ok (.aload_n 0, 1) := by decide +kernel
theorem dX5_addClass_8 : decode cX5_addClass 8 = .ok (.iload_n 2, 1) := by decide +kernel
theorem dX5_addClass_9 : decode cX5_addClass 9 = .ok (.invokevirtual 94, 3) := by decide +kernel
theorem dX5_addClass_12 : decode cX5_addClass 12 = .ok (.ifCond .eq 26, 3) := by decide +kernel
theorem dX5_addClass_15 : decode cX5_addClass 15 = .ok (.iload_n 3, 1) := by decide +kernel
theorem dX5_addClass_16 : decode cX5_addClass 16 = .ok (.iconst 0, 1) := by decide +kernel
theorem dX5_addClass_17 : decode cX5_addClass 17 = .ok (.iconst 1, 1) := by decide +kernel
theorem dX5_addClass_18 : decode cX5_addClass 18 = .ok (.invokestatic 63, 3) := by decide +kernel
theorem dX5_addClass_21 : decode cX5_addClass 21 = .ok (.ifCond .eq 17, 3) := by decide +kernel
theorem dX5_addClass_24 : decode cX5_addClass 24 = .ok (.iload 4, 2) := by decide +kernel
theorem dX5_addClass_26 : decode cX5_addClass 26 = .ok (.sipush (-999), 3) := by decide +kernel
theorem dX5_addClass_29 : decode cX5_addClass 29 = .ok (.sipush 999, 3) := by decide +kernel
theorem dX5_addClass_32 : decode cX5_addClass 32 = .ok (.invokestatic 63, 3) := by decide +kernel
theorem dX5_addClass_35 : decode cX5_addClass 35 = .ok (.ifCond .ne 6, 3) := by decide +kernel
theorem dX5_addClass_38 : decode cX5_addClass 38 = .ok (.ldc 67, 2) := by decide +kernel
theorem dX5_addClass_40 : decode cX5_addClass 40 = .ok (.ireturn, 1) := by decide +kernel
theorem dX5_addClass_41 : decode cX5_addClass 41 = .ok (.aload_n 0, 1) := by decide +kernel
theorem dX5_addClass_42 : decode cX5_addClass 42 = .ok (.iload_n 1, 1) := by decide +kernel
theorem dX5_addClass_43 : decode cX5_addClass 43 = .ok (.invokevirtual 86, 3) := by decide +kernel
theorem dX5_addClass_46 : decode cX5_addClass 46 = .ok (.iconst 0, 1) := by decide +kernel
theorem dX5_addClass_47 : decode cX5_addClass 47 = .ok (.istore 5, 2) := by decide +kernel
theorem dX5_addClass_49 : decode cX5_addClass 49 = .ok (.iconst 0, 1) := by decide +kernel
theorem dX5_addClass_50 : decode cX5_addClass 50 = .ok (.istore 6, 2) := by decide +kernel
theorem dX5_addClass_52 : decode cX5_addClass 52 = .ok (.iload 6, 2) := by decide +kernel
theorem dX5_addClass_54 : decode cX5_addClass 54 = .ok (.aload_n 0, 1) := by decide +kernel
theorem dX5_addClass_55 : decode cX5_addClass 55 = .ok (.getfield 59, 3) := by decide +kernel
theorem dX5_addClass_58 : decode cX5_addClass 58 = .ok (.getfield 76, 3) := by decide +kernel
theorem dX5_addClass_61 : decode cX5_addClass 61 = .ok (.if_icmp .ge 60, 3) := by decide +kernel
theorem dX5_addClass_64 : decode cX5_addClass 64 = .ok (.iload_n 3, 1) := by decide +kernel
theorem dX5_addClass_65 : decode cX5_addClass 65 = .ok (.iconst 1, 1) := by decide +kernel
theorem dX5_addClass_66 : decode cX5_addClass 66 = .ok (.if_icmp .ne 19, 3) := by decide +kernel
theorem dX5_addClass_69 : decode cX5_addClass 69 = .ok (.aload_n 0, 1) := by decide +kernel
theorem dX5_addClass_70 : decode cX5_addClass 70 = .ok (.getfield 59, 3) := by decide +kernel
theorem dX5_addClass_73 : decode cX5_addClass 73 = .ok (.iload 6, 2) := by decide +kernel
theorem dX5_addClass_75 : decode cX5_addClass 75 = .ok (.iload_n 2, 1) := by decide +kernel
theorem dX5_addClass_76 : decode cX5_addClass 76 = .ok (.invokevirtual 97, 3) := by decide +kernel
theorem dX5_addClass_79 : decode cX5_addClass 79 = .ok (.ifCond .eq 36, 3) := by decide +kernel
theorem dX5_addClass_82 : decode cX5_addClass 82 = .ok (.goto 17, 3) := by decide +kernel
theorem dX5_addClass_85 : decode cX5_addClass 85 = .ok (.aload_n 0, 1) := by decide +kernel
theorem dX5_addClass_86 : decode cX5_addClass 86 = .ok (.getfield 59, 3) := by decide +kernel
theorem dX5_addClass_89 : decode cX5_addClass 89 = .ok (.getfield 101, 3) := by decide +kernel
theorem dX5_addClass_92 : decode cX5_addClass 92 = .ok (.iload 6, 2) := by decide +kernel
theorem dX5_addClass_94 : decode cX5_addClass 94 = .ok (.iaload, 1) := by decide +kernel
theorem dX5_addClass_95 : decode cX5_addClass 95 = .ok (.iload_n 2, 1) := by decide +kernel
theorem dX5_addClass_96 : decode cX5_addClass 96 = .ok (.if_icmp .ne 19, 3) := by decide +kernel
theorem dX5_addClass_99 : decode cX5_addClass 99 = .ok (.aload_n 0, 1) := by decide +kernel
theorem dX5_addClass_100 : decode cX5_addClass 100 = .ok (.getfield 20, 3) := by decide +kernel
theorem dX5_addClass_103 : decode cX5_addClass 103 = .ok (.iload 6, 2) := by decide +kernel
theorem dX5_addClass_105 : decode cX5_addClass 105 = .ok (.dup2, 1) := by decide +kernel
theorem dX5_addClass_106 : decode cX5_addClass 106 = .ok (.laload, 1) := by decide +kernel
theorem dX5_addClass_107 : decode cX5_addClass 107 = .ok (.iload 4, 2) := by decide +kernel
theorem dX5_addClass_109 : decode cX5_addClass 109 = .ok (.i2l, 1) := by decide +kernel
theorem dX5_addClass_110 : decode cX5_addClass 110 = .ok (.ladd, 1) := by decide +kernel
theorem dX5_addClass_111 : decode cX5_addClass 111 = .ok (.lastore, 1) := by decide +kernel
theorem dX5_addClass_112 : decode cX5_addClass 112 = .ok (.iinc 5 1, 3) := by decide +kernel
theorem dX5_addClass_115 : decode cX5_addClass 115 = .ok (.iinc 6 1, 3) := by decide +kernel
theorem dX5_addClass_118 : decode cX5_addClass 118 = .ok (.goto (-66), 3) := by decide +kernel
theorem dX5_addClass_121 : decode cX5_addClass 121 = .ok (.aload_n 0, 1) := by decide +kernel
theorem dX5_addClass_122 : decode cX5_addClass 122 = .ok (.iload_n 1, 1) := by decide +kernel
theorem dX5_addClass_123 : decode cX5_addClass 123 = .ok (.iload 5, 2) := by decide +kernel
theorem dX5_addClass_125 : decode cX5_addClass 125 = .ok (.invokevirtual 90, 3) := by decide +kernel
theorem dX5_addClass_128 : decode cX5_addClass 128 = .ok (.ireturn, 1) := by decide +kernel
set_option maxRecDepth 20000 in
theorem ggX5_clear_X5_isSum : GoodIn wsX5_clear wsX5_isSum := goodIn_r _ [5, 6, 7, 4, 8] (by decide +kernel) (by decide +kernel)
set_option maxRecDepth 20000 in
theorem gX5_clear_X5_isSum : GoodIn wsX5_clear (va_wsS RX5 79 yX5_isSum wsX5_isSum) := goodIn_app (goodIn_of _ (by decide +kernel)) ggX5_clear_X5_isSum
set_option maxRecDepth 20000 in
theorem ggX5_clear_X5_termsIn : GoodIn wsX5_clear wsX5_termsIn := goodIn_r _ [12, 13, 14, 15, 47, 48, 49, 50, 51, 52, 53, 54, 55, 56, 57, 58, 59, 60, 61, 62, 63, 64, 65, 66] (by decide +kernel) (by decide +kernel)
set_option maxRecDepth 20000 in
theorem gX5_clear_X5_termsIn : GoodIn wsX5_clear (wsV RX5 105 RX5 yX5_termsIn wsX5_termsIn) := goodIn_app (goodIn_of _ (by decide +kernel)) ggX5_clear_X5_termsIn
set_option maxRecDepth 20000 in
theorem ggX5_clear_X5_makeZeros : GoodIn wsX5_clear wsX5_makeZeros := goodIn_r _ [19, 13, 14, 20, 47, 48, 49, 50, 51, 52, 53, 54, 55, 56, 57, 58, 59, 60, 61, 62, 63, 64, 65, 66] (by decide +kernel) (by decide +kernel)
set_option maxRecDepth 20000 in
theorem gX5_clear_X5_makeZeros : GoodIn wsX5_clear (wsV RX5 109 RX5 yX5_makeZeros wsX5_makeZeros) := goodIn_app (goodIn_of _ (by decide +kernel)) ggX5_clear_X5_makeZeros
set_option maxRecDepth 20000 in
theorem ggX5_clear_X5_settle : GoodIn wsX5_clear wsX5_settle := goodIn_r _ [24, 13, 14, 20, 25, 26, 27, 28, 29, 15, 30, 31, 32, 33, 34, 35, 36, 37, 38, 39, 40, 41, 42, 43, 44, 45, 46, 47, 48, 49, 50, 51, 52, 53, 54, 55, 56, 57, 58, 59, 60, 61, 62, 63, 64, 65, 66, 67, 68, 69, 70] (by decide +kernel) (by decide +kernel)
set_option maxRecDepth 20000 in
theorem gX5_clear_X5_settle : GoodIn wsX5_clear (wsV RX5 90 RX5 yX5_settle wsX5_settle) := goodIn_app (goodIn_of _ (by decide +kernel)) ggX5_clear_X5_settle
theorem dX5_clear_0 : decode cX5_clear 0 = .ok (.iload_n 1, 1) := by decide +kernel
theorem dX5_clear_1 : decode cX5_clear 1 = .ok (.invokestatic 79, 3) := by decide +kernel
theorem dX5_clear_4 : decode cX5_clear 4 = .ok (.ifCond .ne 6, 3) := by decide +kernel
theorem dX5_clear_7 : decode cX5_clear 7 = .ok (.ldc 67, 2) := by decide +kernel
theorem dX5_clear_9 : decode cX5_clear 9 = .ok (.ireturn, 1) := by decide +kernel
theorem dX5_clear_10 : decode cX5_clear 10 = .ok (.aload_n 0, 1) := by decide +kernel
theorem dX5_clear_11 : decode cX5_clear 11 = .ok (.iload_n 1, 1) := by decide +kernel
theorem dX5_clear_12 : decode cX5_clear 12 = .ok (.invokevirtual 105, 3) := by decide +kernel
theorem dX5_clear_15 : decode cX5_clear 15 = .ok (.istore_n 2, 1) := by decide +kernel
theorem dX5_clear_16 : decode cX5_clear 16 = .ok (.aload_n 0, 1) := by decide +kernel
theorem dX5_clear_17 : decode cX5_clear 17 = .ok (.invokevirtual 109, 3) := by decide +kernel
theorem dX5_clear_20 : decode cX5_clear 20 = .ok (.aload_n 0, 1) := by decide +kernel
theorem dX5_clear_21 : decode cX5_clear 21 = .ok (.iload_n 1, 1) := by decide +kernel
theorem dX5_clear_22 : decode cX5_clear 22 = .ok (.iload_n 2, 1) := by decide +kernel
theorem dX5_clear_23 : decode cX5_clear 23 = .ok (.invokevirtual 90, 3) := by decide +kernel
theorem dX5_clear_26 : decode cX5_clear 26 = .ok (.ireturn, 1) := by decide +kernel
set_option maxRecDepth 20000 in
theorem ggX5_multiply_X5_isSum : GoodIn wsX5_multiply wsX5_isSum := goodIn_r _ [6, 7, 8, 5, 9] (by decide +kernel) (by decide +kernel)
set_option maxRecDepth 20000 in
theorem gX5_multiply_X5_isSum : GoodIn wsX5_multiply (va_wsS RX5 79 yX5_isSum wsX5_isSum) := goodIn_app (goodIn_of _ (by decide +kernel)) ggX5_multiply_X5_isSum
set_option maxRecDepth 20000 in
theorem ggX5_multiply_X5_makeProduct : GoodIn wsX5_multiply wsX5_makeProduct := goodIn_r _ [13, 14, 15, 16, 17, 18, 19, 5, 20, 21, 22, 23, 24, 25, 26, 27, 58, 59, 60, 61, 62, 63, 64, 65, 66, 67, 68, 69, 70, 71, 72, 73, 74, 75, 76, 77] (by decide +kernel) (by decide +kernel)
set_option maxRecDepth 20000 in
theorem gX5_multiply_X5_makeProduct : GoodIn wsX5_multiply (wsV RX5 112 RX5 yX5_makeProduct wsX5_makeProduct) := goodIn_app (goodIn_of _ (by decide +kernel)) ggX5_multiply_X5_makeProduct
set_option maxRecDepth 20000 in
theorem ggX5_multiply_X5_termsMade : GoodIn wsX5_multiply wsX5_termsMade := goodIn_r _ [31, 14, 15, 16, 58, 59, 60, 61, 62, 63, 64, 65, 66, 67, 68, 69, 70, 71, 72, 73, 74, 75, 76, 77] (by decide +kernel) (by decide +kernel)
set_option maxRecDepth 20000 in
theorem gX5_multiply_X5_termsMade : GoodIn wsX5_multiply (wsV RX5 116 RX5 yX5_termsMade wsX5_termsMade) := goodIn_app (goodIn_of _ (by decide +kernel)) ggX5_multiply_X5_termsMade
set_option maxRecDepth 20000 in
theorem ggX5_multiply_X5_settle : GoodIn wsX5_multiply wsX5_settle := goodIn_r _ [35, 14, 15, 16, 36, 37, 38, 39, 40, 2, 41, 42, 43, 44, 45, 46, 47, 48, 49, 50, 51, 52, 53, 54, 55, 56, 57, 58, 59, 60, 61, 62, 63, 64, 65, 66, 67, 68, 69, 70, 71, 72, 73, 74, 75, 76, 77, 78, 79, 80, 81] (by decide +kernel) (by decide +kernel)
set_option maxRecDepth 20000 in
theorem gX5_multiply_X5_settle : GoodIn wsX5_multiply (wsV RX5 90 RX5 yX5_settle wsX5_settle) := goodIn_app (goodIn_of _ (by decide +kernel)) ggX5_multiply_X5_settle
theorem dX5_multiply_0 : decode cX5_multiply 0 = .ok (.iload_n 1, 1) := by decide +kernel
theorem dX5_multiply_1 : decode cX5_multiply 1 = .ok (.invokestatic 79, 3) := by decide +kernel
theorem dX5_multiply_4 : decode cX5_multiply 4 = .ok (.ifCond .eq 17, 3) := by decide +kernel
theorem dX5_multiply_7 : decode cX5_multiply 7 = .ok (.iload_n 2, 1) := by decide +kernel
theorem dX5_multiply_8 : decode cX5_multiply 8 = .ok (.invokestatic 79, 3) := by decide +kernel
theorem dX5_multiply_11 : decode cX5_multiply 11 = .ok (.ifCond .eq 10, 3) := by decide +kernel
theorem dX5_multiply_14 : decode cX5_multiply 14 = .ok (.iload_n 3, 1) := by decide +kernel
theorem dX5_multiply_15 : decode cX5_multiply 15 = .ok (.invokestatic 79, 3) := by decide +kernel
theorem dX5_multiply_18 : decode cX5_multiply 18 = .ok (.ifCond .ne 6, 3) := by decide +kernel
theorem dX5_multiply_21 : decode cX5_multiply 21 = .ok (.ldc 67, 2) := by decide +kernel
theorem dX5_multiply_23 : decode cX5_multiply 23 = .ok (.ireturn, 1) := by decide +kernel
theorem dX5_multiply_24 : decode cX5_multiply 24 = .ok (.aload_n 0, 1) := by decide +kernel
theorem dX5_multiply_25 : decode cX5_multiply 25 = .ok (.aload_n 0, 1) := by decide +kernel
theorem dX5_multiply_26 : decode cX5_multiply 26 = .ok (.getfield 17, 3) := by decide +kernel
theorem dX5_multiply_29 : decode cX5_multiply 29 = .ok (.iload_n 2, 1) := by decide +kernel
theorem dX5_multiply_30 : decode cX5_multiply 30 = .ok (.aaload, 1) := by decide +kernel
theorem dX5_multiply_31 : decode cX5_multiply 31 = .ok (.aload_n 0, 1) := by decide +kernel
theorem dX5_multiply_32 : decode cX5_multiply 32 = .ok (.getfield 17, 3) := by decide +kernel
theorem dX5_multiply_35 : decode cX5_multiply 35 = .ok (.iload_n 3, 1) := by decide +kernel
theorem dX5_multiply_36 : decode cX5_multiply 36 = .ok (.aaload, 1) := by decide +kernel
theorem dX5_multiply_37 : decode cX5_multiply 37 = .ok (.invokevirtual 112, 3) := by decide +kernel
theorem dX5_multiply_40 : decode cX5_multiply 40 = .ok (.aload_n 0, 1) := by decide +kernel
theorem dX5_multiply_41 : decode cX5_multiply 41 = .ok (.iload_n 1, 1) := by decide +kernel
theorem dX5_multiply_42 : decode cX5_multiply 42 = .ok (.aload_n 0, 1) := by decide +kernel
theorem dX5_multiply_43 : decode cX5_multiply 43 = .ok (.invokevirtual 116, 3) := by decide +kernel
theorem dX5_multiply_46 : decode cX5_multiply 46 = .ok (.invokevirtual 90, 3) := by decide +kernel
theorem dX5_multiply_49 : decode cX5_multiply 49 = .ok (.ireturn, 1) := by decide +kernel
set_option maxRecDepth 20000 in
theorem ggX5_combine_X5_isSum : GoodIn wsX5_combine wsX5_isSum := goodIn_r _ [9, 10, 11, 8, 12] (by decide +kernel) (by decide +kernel)
set_option maxRecDepth 20000 in
theorem gX5_combine_X5_isSum : GoodIn wsX5_combine (va_wsS RX5 79 yX5_isSum wsX5_isSum) := goodIn_app (goodIn_of _ (by decide +kernel)) ggX5_combine_X5_isSum
set_option maxRecDepth 20000 in
theorem ggX5_combine_X5_isWithin : GoodIn wsX5_combine wsX5_isWithin := goodIn_r _ [12] (by decide +kernel) (by decide +kernel)
set_option maxRecDepth 20000 in
theorem gX5_combine_X5_isWithin : GoodIn wsX5_combine (va_wsS RX5 63 yX5_isWithin wsX5_isWithin) := goodIn_app (goodIn_of _ (by decide +kernel)) ggX5_combine_X5_isWithin
set_option maxRecDepth 20000 in
theorem ggX5_combine_X5_termsMade : GoodIn wsX5_combine wsX5_termsMade := goodIn_r _ [16, 2, 3, 4, 43, 44, 45, 46, 47, 48, 49, 50, 51, 52, 53, 54, 55, 56, 57, 58, 59, 60, 61, 62] (by decide +kernel) (by decide +kernel)
set_option maxRecDepth 20000 in
theorem gX5_combine_X5_termsMade : GoodIn wsX5_combine (wsV RX5 116 RX5 yX5_termsMade wsX5_termsMade) := goodIn_app (goodIn_of _ (by decide +kernel)) ggX5_combine_X5_termsMade
set_option maxRecDepth 20000 in
theorem ggX5_combine_X5_settle : GoodIn wsX5_combine wsX5_settle := goodIn_r _ [20, 2, 3, 4, 21, 22, 23, 24, 25, 5, 26, 27, 28, 29, 30, 31, 32, 33, 34, 35, 36, 37, 38, 39, 40, 41, 42, 43, 44, 45, 46, 47, 48, 49, 50, 51, 52, 53, 54, 55, 56, 57, 58, 59, 60, 61, 62, 63, 64, 65, 66] (by decide +kernel) (by decide +kernel)
set_option maxRecDepth 20000 in
theorem gX5_combine_X5_settle : GoodIn wsX5_combine (wsV RX5 90 RX5 yX5_settle wsX5_settle) := goodIn_app (goodIn_of _ (by decide +kernel)) ggX5_combine_X5_settle
theorem dX5_combine_0 : decode cX5_combine 0 = .ok (.iload_n 1, 1) := by decide +kernel
theorem dX5_combine_1 : decode cX5_combine 1 = .ok (.invokestatic 79, 3) := by decide +kernel
theorem dX5_combine_4 : decode cX5_combine 4 = .ok (.ifCond .eq 18, 3) := by decide +kernel
theorem dX5_combine_7 : decode cX5_combine 7 = .ok (.iload_n 2, 1) := by decide +kernel
theorem dX5_combine_8 : decode cX5_combine 8 = .ok (.invokestatic 79, 3) := by decide +kernel
theorem dX5_combine_11 : decode cX5_combine 11 = .ok (.ifCond .eq 11, 3) := by decide +kernel
theorem dX5_combine_14 : decode cX5_combine 14 = .ok (.iload 4, 2) := by decide +kernel
theorem dX5_combine_16 : decode cX5_combine 16 = .ok (.invokestatic 79, 3) := by decide +kernel
theorem dX5_combine_19 : decode cX5_combine 19 = .ok (.ifCond .ne 6, 3) := by decide +kernel
theorem dX5_combine_22 : decode cX5_combine 22 = .ok (.ldc 67, 2) := by decide +kernel
theorem dX5_combine_24 : decode cX5_combine 24 = .ok (.ireturn, 1) := by decide +kernel
theorem dX5_combine_25 : decode cX5_combine 25 = .ok (.iload_n 3, 1) := by decide +kernel
theorem dX5_combine_26 : decode cX5_combine 26 = .ok (.bipush (-99), 2) := by decide +kernel
theorem dX5_combine_28 : decode cX5_combine 28 = .ok (.bipush 99, 2) := by decide +kernel
theorem dX5_combine_30 : decode cX5_combine 30 = .ok (.invokestatic 63, 3) := by decide +kernel
theorem dX5_combine_33 : decode cX5_combine 33 = .ok (.ifCond .eq 15, 3) := by decide +kernel
theorem dX5_combine_36 : decode cX5_combine 36 = .ok (.iload 5, 2) := by decide +kernel
theorem dX5_combine_38 : decode cX5_combine 38 = .ok (.bipush (-99), 2) := by decide +kernel
theorem dX5_combine_40 : decode cX5_combine 40 = .ok (.bipush 99, 2) := by decide +kernel
theorem dX5_combine_42 : decode cX5_combine 42 = .ok (.invokestatic 63, 3) := by decide +kernel
theorem dX5_combine_45 : decode cX5_combine 45 = .ok (.ifCond .ne 6, 3) := by decide +kernel
theorem dX5_combine_48 : decode cX5_combine 48 = .ok (.ldc 67, 2) := by decide +kernel
theorem dX5_combine_50 : decode cX5_combine 50 = .ok (.ireturn, 1) := by decide +kernel
theorem dX5_combine_51 : decode cX5_combine 51 = .ok (.iconst 0, 1) := by decide +kernel
theorem dX5_combine_52 : decode cX5_combine 52 = .ok (.istore 6, 2) := by decide +kernel
theorem dX5_combine_54 : decode cX5_combine 54 = .ok (.iload 6, 2) := by decide +kernel
theorem dX5_combine_56 : decode cX5_combine 56 = .ok (.aload_n 0, 1) := by decide +kernel
theorem dX5_combine_57 : decode cX5_combine 57 = .ok (.getfield 59, 3) := by decide +kernel
theorem dX5_combine_60 : decode cX5_combine 60 = .ok (.getfield 76, 3) := by decide +kernel
theorem dX5_combine_63 : decode cX5_combine 63 = .ok (.if_icmp .ge 45, 3) := by decide +kernel
theorem dX5_combine_66 : decode cX5_combine 66 = .ok (.aload_n 0, 1) := by decide +kernel
theorem dX5_combine_67 : decode cX5_combine 67 = .ok (.getfield 20, 3) := by decide +kernel
theorem dX5_combine_70 : decode cX5_combine 70 = .ok (.iload 6, 2) := by decide +kernel
theorem dX5_combine_72 : decode cX5_combine 72 = .ok (.iload_n 3, 1) := by decide +kernel
theorem dX5_combine_73 : decode cX5_combine 73 = .ok (.i2l, 1) := by decide +kernel
theorem dX5_combine_74 : decode cX5_combine 74 = .ok (.aload_n 0, 1) := by decide +kernel
theorem dX5_combine_75 : decode cX5_combine 75 = .ok (.getfield 17, 3) := by decide +kernel
theorem dX5_combine_78 : decode cX5_combine 78 = .ok (.iload_n 2, 1) := by decide +kernel
theorem dX5_combine_79 : decode cX5_combine 79 = .ok (.aaload, 1) := by decide +kernel
theorem dX5_combine_80 : decode cX5_combine 80 = .ok (.iload 6, 2) := by decide +kernel
theorem dX5_combine_82 : decode cX5_combine 82 = .ok (.iaload, 1) := by decide +kernel
theorem dX5_combine_83 : decode cX5_combine 83 = .ok (.i2l, 1) := by decide +kernel
theorem dX5_combine_84 : decode cX5_combine 84 = .ok (.lmul, 1) := by decide +kernel
theorem dX5_combine_85 : decode cX5_combine 85 = .ok (.iload 5, 2) := by decide +kernel
theorem dX5_combine_87 : decode cX5_combine 87 = .ok (.i2l, 1) := by decide +kernel
theorem dX5_combine_88 : decode cX5_combine 88 = .ok (.aload_n 0, 1) := by decide +kernel
theorem dX5_combine_89 : decode cX5_combine 89 = .ok (.getfield 17, 3) := by decide +kernel
theorem dX5_combine_92 : decode cX5_combine 92 = .ok (.iload 4, 2) := by decide +kernel
theorem dX5_combine_94 : decode cX5_combine 94 = .ok (.aaload, 1) := by decide +kernel
theorem dX5_combine_95 : decode cX5_combine 95 = .ok (.iload 6, 2) := by decide +kernel
theorem dX5_combine_97 : decode cX5_combine 97 = .ok (.iaload, 1) := by decide +kernel
theorem dX5_combine_98 : decode cX5_combine 98 = .ok (.i2l, 1) := by decide +kernel
theorem dX5_combine_99 : decode cX5_combine 99 = .ok (.lmul, 1) := by decide +kernel
theorem dX5_combine_100 : decode cX5_combine 100 = .ok (.ladd, 1) := by decide +kernel
theorem dX5_combine_101 : decode cX5_combine 101 = .ok (.lastore, 1) := by decide +kernel
theorem dX5_combine_102 : decode cX5_combine 102 = .ok (.iinc 6 1, 3) := by decide +kernel
theorem dX5_combine_105 : decode cX5_combine 105 = .ok (.goto (-51), 3) := by decide +kernel
theorem dX5_combine_108 : decode cX5_combine 108 = .ok (.aload_n 0, 1) := by decide +kernel
theorem dX5_combine_109 : decode cX5_combine 109 = .ok (.iload_n 1, 1) := by decide +kernel
theorem dX5_combine_110 : decode cX5_combine 110 = .ok (.aload_n 0, 1) := by decide +kernel
theorem dX5_combine_111 : decode cX5_combine 111 = .ok (.invokevirtual 116, 3) := by decide +kernel
theorem dX5_combine_114 : decode cX5_combine 114 = .ok (.invokevirtual 90, 3) := by decide +kernel
theorem dX5_combine_117 : decode cX5_combine 117 = .ok (.ireturn, 1) := by decide +kernel
set_option maxRecDepth 20000 in
theorem ggX5_turn_X5_isSum : GoodIn wsX5_turn wsX5_isSum := goodIn_r _ [9, 10, 11, 8, 12] (by decide +kernel) (by decide +kernel)
set_option maxRecDepth 20000 in
theorem gX5_turn_X5_isSum : GoodIn wsX5_turn (va_wsS RX5 79 yX5_isSum wsX5_isSum) := goodIn_app (goodIn_of _ (by decide +kernel)) ggX5_turn_X5_isSum
set_option maxRecDepth 20000 in
theorem ggX5_turn_X5_isWithin : GoodIn wsX5_turn wsX5_isWithin := goodIn_r _ [12] (by decide +kernel) (by decide +kernel)
set_option maxRecDepth 20000 in
theorem gX5_turn_X5_isWithin : GoodIn wsX5_turn (va_wsS RX5 63 yX5_isWithin wsX5_isWithin) := goodIn_app (goodIn_of _ (by decide +kernel)) ggX5_turn_X5_isWithin
set_option maxRecDepth 20000 in
theorem ggX5_turn_X1_parityOf : GoodIn wsX5_turn wsX1_parityOf := goodIn_r _ [17, 18, 72, 73, 74, 75, 76, 77, 78, 79, 80, 81, 82] (by decide +kernel) (by decide +kernel)
set_option maxRecDepth 20000 in
theorem gX5_turn_X1_parityOf : GoodIn wsX5_turn (wsV RX5 120 RX1 yX1_parityOf wsX1_parityOf) := goodIn_app (goodIn_of _ (by decide +kernel)) ggX5_turn_X1_parityOf
set_option maxRecDepth 20000 in
theorem ggX5_turn_X1_turned : GoodIn wsX5_turn wsX1_turned := goodIn_r _ [22, 23, 24, 25, 26, 27, 28, 16, 29, 30, 31, 32, 33, 34, 35, 36, 72, 73, 74, 75, 76, 77, 78, 79, 80, 81, 82] (by decide +kernel) (by decide +kernel)
set_option maxRecDepth 20000 in
theorem gX5_turn_X1_turned : GoodIn wsX5_turn (wsV RX5 123 RX1 yX1_turned wsX1_turned) := goodIn_app (goodIn_of _ (by decide +kernel)) ggX5_turn_X1_turned
set_option maxRecDepth 20000 in
theorem ggX5_turn_X5_settle : GoodIn wsX5_turn wsX5_settle := goodIn_r _ [40, 3, 4, 5, 41, 42, 43, 44, 45, 2, 46, 47, 48, 49, 50, 51, 52, 53, 54, 55, 56, 57, 58, 59, 60, 61, 62, 63, 64, 65, 66, 67, 68, 69, 70, 71, 72, 73, 74, 75, 76, 77, 78, 79, 80, 81, 82, 83, 84, 85, 86] (by decide +kernel) (by decide +kernel)
set_option maxRecDepth 20000 in
theorem gX5_turn_X5_settle : GoodIn wsX5_turn (wsV RX5 90 RX5 yX5_settle wsX5_settle) := goodIn_app (goodIn_of _ (by decide +kernel)) ggX5_turn_X5_settle
theorem dX5_turn_0 : decode cX5_turn 0 = .ok (.iload_n 1, 1) := by decide +kernel
theorem dX5_turn_1 : decode cX5_turn 1 = .ok (.invokestatic 79, 3) := by decide +kernel
theorem dX5_turn_4 : decode cX5_turn 4 = .ok (.ifCond .eq 12, 3) := by decide +kernel
theorem dX5_turn_7 : decode cX5_turn 7 = .ok (.iload_n 2, 1) := by decide +kernel
theorem dX5_turn_8 : decode cX5_turn 8 = .ok (.iconst 0, 1) := by decide +kernel
theorem dX5_turn_9 : decode cX5_turn 9 = .ok (.iconst 3, 1) := by decide +kernel
theorem dX5_turn_10 : decode cX5_turn 10 = .ok (.invokestatic 63, 3) := by decide +kernel
theorem dX5_turn_13 : decode cX5_turn 13 = .ok (.ifCond .ne 6, 3) := by decide +kernel
theorem dX5_turn_16 : decode cX5_turn 16 = .ok (.ldc 67, 2) := by decide +kernel
theorem dX5_turn_18 : decode cX5_turn 18 = .ok (.ireturn, 1) := by decide +kernel
theorem dX5_turn_19 : decode cX5_turn 19 = .ok (.aload_n 0, 1) := by decide +kernel
theorem dX5_turn_20 : decode cX5_turn 20 = .ok (.getfield 17, 3) := by decide +kernel
theorem dX5_turn_23 : decode cX5_turn 23 = .ok (.iload_n 1, 1) := by decide +kernel
theorem dX5_turn_24 : decode cX5_turn 24 = .ok (.aaload, 1) := by decide +kernel
theorem dX5_turn_25 : decode cX5_turn 25 = .ok (.astore_n 3, 1) := by decide +kernel
theorem dX5_turn_26 : decode cX5_turn 26 = .ok (.iconst 0, 1) := by decide +kernel
theorem dX5_turn_27 : decode cX5_turn 27 = .ok (.istore 4, 2) := by decide +kernel
theorem dX5_turn_29 : decode cX5_turn 29 = .ok (.iload 4, 2) := by decide +kernel
theorem dX5_turn_31 : decode cX5_turn 31 = .ok (.aload_n 0, 1) := by decide +kernel
theorem dX5_turn_32 : decode cX5_turn 32 = .ok (.getfield 59, 3) := by decide +kernel
theorem dX5_turn_35 : decode cX5_turn 35 = .ok (.getfield 76, 3) := by decide +kernel
theorem dX5_turn_38 : decode cX5_turn 38 = .ok (.if_icmp .ge 68, 3) := by decide +kernel
theorem dX5_turn_41 : decode cX5_turn 41 = .ok (.iload_n 2, 1) := by decide +kernel
theorem dX5_turn_42 : decode cX5_turn 42 = .ok (.iconst 3, 1) := by decide +kernel
theorem dX5_turn_43 : decode cX5_turn 43 = .ok (.if_icmp .ne 20, 3) := by decide +kernel
theorem dX5_turn_46 : decode cX5_turn 46 = .ok (.aload_n 0, 1) := by decide +kernel
theorem dX5_turn_47 : decode cX5_turn 47 = .ok (.getfield 59, 3) := by decide +kernel
theorem dX5_turn_50 : decode cX5_turn 50 = .ok (.iload 4, 2) := by decide +kernel
theorem dX5_turn_52 : decode cX5_turn 52 = .ok (.invokevirtual 120, 3) := by decide +kernel
theorem dX5_turn_55 : decode cX5_turn 55 = .ok (.iconst 1, 1) := by decide +kernel
theorem dX5_turn_56 : decode cX5_turn 56 = .ok (.if_icmp .ne 7, 3) := by decide +kernel
theorem dX5_turn_59 : decode cX5_turn 59 = .ok (.iconst 1, 1) := by decide +kernel
theorem dX5_turn_60 : decode cX5_turn 60 = .ok (.goto 4, 3) := by decide +kernel
theorem dX5_turn_63 : decode cX5_turn 63 = .ok (.iconst 0, 1) := by decide +kernel
theorem dX5_turn_64 : decode cX5_turn 64 = .ok (.istore 5, 2) := by decide +kernel
theorem dX5_turn_66 : decode cX5_turn 66 = .ok (.aload_n 0, 1) := by decide +kernel
theorem dX5_turn_67 : decode cX5_turn 67 = .ok (.getfield 20, 3) := by decide +kernel
theorem dX5_turn_70 : decode cX5_turn 70 = .ok (.aload_n 0, 1) := by decide +kernel
theorem dX5_turn_71 : decode cX5_turn 71 = .ok (.getfield 59, 3) := by decide +kernel
theorem dX5_turn_74 : decode cX5_turn 74 = .ok (.iload 4, 2) := by decide +kernel
theorem dX5_turn_76 : decode cX5_turn 76 = .ok (.iload_n 2, 1) := by decide +kernel
theorem dX5_turn_77 : decode cX5_turn 77 = .ok (.invokevirtual 123, 3) := by decide +kernel
theorem dX5_turn_80 : decode cX5_turn 80 = .ok (.iload 5, 2) := by decide +kernel
theorem dX5_turn_82 : decode cX5_turn 82 = .ok (.ifCond .eq 12, 3) := by decide +kernel
theorem dX5_turn_85 : decode cX5_turn 85 = .ok (.aload_n 3, 1) := by decide +kernel
theorem dX5_turn_86 : decode cX5_turn 86 = .ok (.iload 4, 2) := by decide +kernel
theorem dX5_turn_88 : decode cX5_turn 88 = .ok (.iaload, 1) := by decide +kernel
theorem dX5_turn_89 : decode cX5_turn 89 = .ok (.ineg, 1) := by decide +kernel
theorem dX5_turn_90 : decode cX5_turn 90 = .ok (.i2l, 1) := by decide +kernel
theorem dX5_turn_91 : decode cX5_turn 91 = .ok (.goto 8, 3) := by decide +kernel
theorem dX5_turn_94 : decode cX5_turn 94 = .ok (.aload_n 3, 1) := by decide +kernel
theorem dX5_turn_95 : decode cX5_turn 95 = .ok (.iload 4, 2) := by decide +kernel
theorem dX5_turn_97 : decode cX5_turn 97 = .ok (.iaload, 1) := by decide +kernel
theorem dX5_turn_98 : decode cX5_turn 98 = .ok (.i2l, 1) := by decide +kernel
theorem dX5_turn_99 : decode cX5_turn 99 = .ok (.lastore, 1) := by decide +kernel
theorem dX5_turn_100 : decode cX5_turn 100 = .ok (.iinc 4 1, 3) := by decide +kernel
theorem dX5_turn_103 : decode cX5_turn 103 = .ok (.goto (-74), 3) := by decide +kernel
theorem dX5_turn_106 : decode cX5_turn 106 = .ok (.iconst 0, 1) := by decide +kernel
theorem dX5_turn_107 : decode cX5_turn 107 = .ok (.istore 4, 2) := by decide +kernel
theorem dX5_turn_109 : decode cX5_turn 109 = .ok (.iconst 0, 1) := by decide +kernel
theorem dX5_turn_110 : decode cX5_turn 110 = .ok (.istore 5, 2) := by decide +kernel
theorem dX5_turn_112 : decode cX5_turn 112 = .ok (.iload 5, 2) := by decide +kernel
theorem dX5_turn_114 : decode cX5_turn 114 = .ok (.aload_n 0, 1) := by decide +kernel
theorem dX5_turn_115 : decode cX5_turn 115 = .ok (.getfield 59, 3) := by decide +kernel
theorem dX5_turn_118 : decode cX5_turn 118 = .ok (.getfield 76, 3) := by decide +kernel
theorem dX5_turn_121 : decode cX5_turn 121 = .ok (.if_icmp .ge 28, 3) := by decide +kernel
theorem dX5_turn_124 : decode cX5_turn 124 = .ok (.aload_n 0, 1) := by decide +kernel
theorem dX5_turn_125 : decode cX5_turn 125 = .ok (.getfield 20, 3) := by decide +kernel
theorem dX5_turn_128 : decode cX5_turn 128 = .ok (.iload 5, 2) := by decide +kernel
theorem dX5_turn_130 : decode cX5_turn 130 = .ok (.laload, 1) := by decide +kernel
theorem dX5_turn_131 : decode cX5_turn 131 = .ok (.aload_n 3, 1) := by decide +kernel
theorem dX5_turn_132 : decode cX5_turn 132 = .ok (.iload 5, 2) := by decide +kernel
theorem dX5_turn_134 : decode cX5_turn 134 = .ok (.iaload, 1) := by decide +kernel
theorem dX5_turn_135 : decode cX5_turn 135 = .ok (.i2l, 1) := by decide +kernel
theorem dX5_turn_136 : decode cX5_turn 136 = .ok (.lcmp, 1) := by decide +kernel
theorem dX5_turn_137 : decode cX5_turn 137 = .ok (.ifCond .eq 6, 3) := by decide +kernel
theorem dX5_turn_140 : decode cX5_turn 140 = .ok (.iinc 4 1, 3) := by decide +kernel
theorem dX5_turn_143 : decode cX5_turn 143 = .ok (.iinc 5 1, 3) := by decide +kernel
theorem dX5_turn_146 : decode cX5_turn 146 = .ok (.goto (-34), 3) := by decide +kernel
theorem dX5_turn_149 : decode cX5_turn 149 = .ok (.aload_n 0, 1) := by decide +kernel
theorem dX5_turn_150 : decode cX5_turn 150 = .ok (.iload_n 1, 1) := by decide +kernel
theorem dX5_turn_151 : decode cX5_turn 151 = .ok (.iload 4, 2) := by decide +kernel
theorem dX5_turn_153 : decode cX5_turn 153 = .ok (.invokevirtual 90, 3) := by decide +kernel
theorem dX5_turn_156 : decode cX5_turn 156 = .ok (.ireturn, 1) := by decide +kernel
set_option maxRecDepth 20000 in
theorem ggX5_shuffle_X5_isSum : GoodIn wsX5_shuffle wsX5_isSum := goodIn_r _ [9, 10, 11, 8, 12] (by decide +kernel) (by decide +kernel)
set_option maxRecDepth 20000 in
theorem gX5_shuffle_X5_isSum : GoodIn wsX5_shuffle (va_wsS RX5 79 yX5_isSum wsX5_isSum) := goodIn_app (goodIn_of _ (by decide +kernel)) ggX5_shuffle_X5_isSum
set_option maxRecDepth 20000 in
theorem ggX5_shuffle_X5_isWithin : GoodIn wsX5_shuffle wsX5_isWithin := goodIn_r _ [12] (by decide +kernel) (by decide +kernel)
set_option maxRecDepth 20000 in
theorem gX5_shuffle_X5_isWithin : GoodIn wsX5_shuffle (va_wsS RX5 63 yX5_isWithin wsX5_isWithin) := goodIn_app (goodIn_of _ (by decide +kernel)) ggX5_shuffle_X5_isWithin
set_option maxRecDepth 20000 in
theorem ggX5_shuffle_X5_ordersWith : GoodIn wsX5_shuffle wsX5_ordersWith := goodIn_r _ [16, 17, 18, 19, 20, 21, 22, 23, 24, 25, 26, 27, 28, 29, 30, 31, 32, 33, 34, 35, 36, 37, 38, 39, 40, 41, 42, 43, 44, 45, 46, 47, 48, 49, 50, 51, 52, 53, 54, 55, 56, 57, 58, 59, 60, 61, 62, 63, 64, 65, 66, 67, 68, 69, 70, 71, 72, 111, 112, 113, 114, 115, 116, 117, 118, 119, 120, 121, 122, 123, 124, 125, 126, 127, 128, 129, 130] (by decide +kernel) (by decide +kernel)
set_option maxRecDepth 20000 in
theorem gX5_shuffle_X5_ordersWith : GoodIn wsX5_shuffle (wsV RX5 55 RX5 yX5_ordersWith wsX5_ordersWith) := goodIn_app (goodIn_of _ (by decide +kernel)) ggX5_shuffle_X5_ordersWith
set_option maxRecDepth 20000 in
theorem ggX5_shuffle_X5_makeCopyOf : GoodIn wsX5_shuffle wsX5_makeCopyOf := goodIn_r _ [76, 1, 4, 5, 77, 111, 112, 113, 114, 115, 116, 117, 118, 119, 120, 121, 122, 123, 124, 125, 126, 127, 128, 129, 130] (by decide +kernel) (by decide +kernel)
set_option maxRecDepth 20000 in
theorem gX5_shuffle_X5_makeCopyOf : GoodIn wsX5_shuffle (wsV RX5 86 RX5 yX5_makeCopyOf wsX5_makeCopyOf) := goodIn_app (goodIn_of _ (by decide +kernel)) ggX5_shuffle_X5_makeCopyOf
set_option maxRecDepth 20000 in
theorem ggX5_shuffle_X1_keepsLower : GoodIn wsX5_shuffle wsX1_keepsLower := goodIn_r _ [81, 27, 50, 51, 52, 20, 53, 36, 120, 121, 122, 123, 124, 125, 126, 127, 128, 129, 130] (by decide +kernel) (by decide +kernel)
set_option maxRecDepth 20000 in
theorem gX5_shuffle_X1_keepsLower : GoodIn wsX5_shuffle (wsV RX5 126 RX1 yX1_keepsLower wsX1_keepsLower) := goodIn_app (goodIn_of _ (by decide +kernel)) ggX5_shuffle_X1_keepsLower
set_option maxRecDepth 20000 in
theorem ggX5_shuffle_X1_keepsUpper : GoodIn wsX5_shuffle wsX1_keepsUpper := goodIn_r _ [85, 27, 50, 51, 52, 20, 53, 36, 120, 121, 122, 123, 124, 125, 126, 127, 128, 129, 130] (by decide +kernel) (by decide +kernel)
set_option maxRecDepth 20000 in
theorem gX5_shuffle_X1_keepsUpper : GoodIn wsX5_shuffle (wsV RX5 130 RX1 yX1_keepsUpper wsX1_keepsUpper) := goodIn_app (goodIn_of _ (by decide +kernel)) ggX5_shuffle_X1_keepsUpper
set_option maxRecDepth 20000 in
theorem ggX5_shuffle_X5_settle : GoodIn wsX5_shuffle wsX5_settle := goodIn_r _ [89, 1, 4, 5, 90, 91, 92, 93, 2, 77, 94, 95, 96, 97, 98, 99, 100, 101, 102, 103, 104, 105, 106, 107, 108, 109, 110, 111, 112, 113, 114, 115, 116, 117, 118, 119, 120, 121, 122, 123, 124, 125, 126, 127, 128, 129, 130, 131, 132, 133, 134] (by decide +kernel) (by decide +kernel)
set_option maxRecDepth 20000 in
theorem gX5_shuffle_X5_settle : GoodIn wsX5_shuffle (wsV RX5 90 RX5 yX5_settle wsX5_settle) := goodIn_app (goodIn_of _ (by decide +kernel)) ggX5_shuffle_X5_settle
theorem dX5_shuffle_0 : decode cX5_shuffle 0 = .ok (.iload_n 1, 1) := by decide +kernel
theorem dX5_shuffle_1 : decode cX5_shuffle 1 = .ok (.invokestatic 79, 3) := by decide +kernel
theorem dX5_shuffle_4 : decode cX5_shuffle 4 = .ok (.ifCond .eq 20, 3) := by decide +kernel
theorem dX5_shuffle_7 : decode cX5_shuffle 7 = .ok (.iload_n 2, 1) := by decide +kernel
theorem dX5_shuffle_8 : decode cX5_shuffle 8 = .ok (.iconst 1, 1) := by decide +kernel
theorem dX5_shuffle_9 : decode cX5_shuffle 9 = .ok (.aload_n 0, 1) := by decide +kernel
theorem dX5_shuffle_10 : decode cX5_shuffle 10 = .ok (.getfield 59, 3) := by decide +kernel
theorem dX5_shuffle_13 : decode cX5_shuffle 13 = .ok (.getfield 68, 3) := by decide +kernel
theorem dX5_shuffle_16 : decode cX5_shuffle 16 = .ok (.iconst 1, 1) := by decide +kernel
theorem dX5_shuffle_17 : decode cX5_shuffle 17 = .ok (.isub, 1) := by decide +kernel
theorem dX5_shuffle_18 : decode cX5_shuffle 18 = .ok (.invokestatic 63, 3) := by decide +kernel
theorem dX5_shuffle_21 : decode cX5_shuffle 21 = .ok (.ifCond .ne 6, 3) := by decide +kernel
theorem dX5_shuffle_24 : decode cX5_shuffle 24 = .ok (.ldc 67, 2) := by decide +kernel
theorem dX5_shuffle_26 : decode cX5_shuffle 26 = .ok (.ireturn, 1) := by decide +kernel
theorem dX5_shuffle_27 : decode cX5_shuffle 27 = .ok (.aload_n 0, 1) := by decide +kernel
theorem dX5_shuffle_28 : decode cX5_shuffle 28 = .ok (.iload_n 2, 1) := by decide +kernel
theorem dX5_shuffle_29 : decode cX5_shuffle 29 = .ok (.invokevirtual 55, 3) := by decide +kernel
theorem dX5_shuffle_32 : decode cX5_shuffle 32 = .ok (.astore 5, 2) := by decide +kernel
theorem dX5_shuffle_34 : decode cX5_shuffle 34 = .ok (.aload_n 0, 1) := by decide +kernel
theorem dX5_shuffle_35 : decode cX5_shuffle 35 = .ok (.aload_n 0, 1) := by decide +kernel
theorem dX5_shuffle_36 : decode cX5_shuffle 36 = .ok (.getfield 59, 3) := by decide +kernel
theorem dX5_shuffle_39 : decode cX5_shuffle 39 = .ok (.getfield 68, 3) := by decide +kernel
theorem dX5_shuffle_42 : decode cX5_shuffle 42 = .ok (.iload_n 2, 1) := by decide +kernel
theorem dX5_shuffle_43 : decode cX5_shuffle 43 = .ok (.isub, 1) := by decide +kernel
theorem dX5_shuffle_44 : decode cX5_shuffle 44 = .ok (.invokevirtual 55, 3) := by decide +kernel
theorem dX5_shuffle_47 : decode cX5_shuffle 47 = .ok (.astore 6, 2) := by decide +kernel
theorem dX5_shuffle_49 : decode cX5_shuffle 49 = .ok (.iload_n 3, 1) := by decide +kernel
theorem dX5_shuffle_50 : decode cX5_shuffle 50 = .ok (.iconst 0, 1) := by decide +kernel
theorem dX5_shuffle_51 : decode cX5_shuffle 51 = .ok (.aload 5, 2) := by decide +kernel
theorem dX5_shuffle_53 : decode cX5_shuffle 53 = .ok (.getfield 76, 3) := by decide +kernel
theorem dX5_shuffle_56 : decode cX5_shuffle 56 = .ok (.iconst 1, 1) := by decide +kernel
theorem dX5_shuffle_57 : decode cX5_shuffle 57 = .ok (.isub, 1) := by decide +kernel
theorem dX5_shuffle_58 : decode cX5_shuffle 58 = .ok (.invokestatic 63, 3) := by decide +kernel
theorem dX5_shuffle_61 : decode cX5_shuffle 61 = .ok (.ifCond .eq 19, 3) := by decide +kernel
theorem dX5_shuffle_64 : decode cX5_shuffle 64 = .ok (.iload 4, 2) := by decide +kernel
theorem dX5_shuffle_66 : decode cX5_shuffle 66 = .ok (.iconst 0, 1) := by decide +kernel
theorem dX5_shuffle_67 : decode cX5_shuffle 67 = .ok (.aload 6, 2) := by decide +kernel
theorem dX5_shuffle_69 : decode cX5_shuffle 69 = .ok (.getfield 76, 3) := by decide +kernel
theorem dX5_shuffle_72 : decode cX5_shuffle 72 = .ok (.iconst 1, 1) := by decide +kernel
theorem dX5_shuffle_73 : decode cX5_shuffle 73 = .ok (.isub, 1) := by decide +kernel
theorem dX5_shuffle_74 : decode cX5_shuffle 74 = .ok (.invokestatic 63, 3) := by decide +kernel
theorem dX5_shuffle_77 : decode cX5_shuffle 77 = .ok (.ifCond .ne 6, 3) := by decide +kernel
theorem dX5_shuffle_80 : decode cX5_shuffle 80 = .ok (.ldc 67, 2) := by decide +kernel
theorem dX5_shuffle_82 : decode cX5_shuffle 82 = .ok (.ireturn, 1) := by decide +kernel
theorem dX5_shuffle_83 : decode cX5_shuffle 83 = .ok (.aload_n 0, 1) := by decide +kernel
theorem dX5_shuffle_84 : decode cX5_shuffle 84 = .ok (.iload_n 1, 1) := by decide +kernel
theorem dX5_shuffle_85 : decode cX5_shuffle 85 = .ok (.invokevirtual 86, 3) := by decide +kernel
theorem dX5_shuffle_88 : decode cX5_shuffle 88 = .ok (.iconst 0, 1) := by decide +kernel
theorem dX5_shuffle_89 : decode cX5_shuffle 89 = .ok (.istore 7, 2) := by decide +kernel
theorem dX5_shuffle_91 : decode cX5_shuffle 91 = .ok (.iconst 0, 1) := by decide +kernel
theorem dX5_shuffle_92 : decode cX5_shuffle 92 = .ok (.istore 8, 2) := by decide +kernel
theorem dX5_shuffle_94 : decode cX5_shuffle 94 = .ok (.iload 8, 2) := by decide +kernel
theorem dX5_shuffle_96 : decode cX5_shuffle 96 = .ok (.aload_n 0, 1) := by decide +kernel
theorem dX5_shuffle_97 : decode cX5_shuffle 97 = .ok (.getfield 59, 3) := by decide +kernel
theorem dX5_shuffle_100 : decode cX5_shuffle 100 = .ok (.getfield 76, 3) := by decide +kernel
theorem dX5_shuffle_103 : decode cX5_shuffle 103 = .ok (.if_icmp .ge 54, 3) := by decide +kernel
theorem dX5_shuffle_106 : decode cX5_shuffle 106 = .ok (.aload_n 0, 1) := by decide +kernel
theorem dX5_shuffle_107 : decode cX5_shuffle 107 = .ok (.getfield 59, 3) := by decide +kernel
theorem dX5_shuffle_110 : decode cX5_shuffle 110 = .ok (.iload 8, 2) := by decide +kernel
theorem dX5_shuffle_112 : decode cX5_shuffle 112 = .ok (.aload 5, 2) := by decide +kernel
theorem dX5_shuffle_114 : decode cX5_shuffle 114 = .ok (.iload_n 3, 1) := by decide +kernel
theorem dX5_shuffle_115 : decode cX5_shuffle 115 = .ok (.invokevirtual 126, 3) := by decide +kernel
theorem dX5_shuffle_118 : decode cX5_shuffle 118 = .ok (.ifCond .eq 33, 3) := by decide +kernel
theorem dX5_shuffle_121 : decode cX5_shuffle 121 = .ok (.aload_n 0, 1) := by decide +kernel
theorem dX5_shuffle_122 : decode cX5_shuffle 122 = .ok (.getfield 59, 3) := by decide +kernel
theorem dX5_shuffle_125 : decode cX5_shuffle 125 = .ok (.iload 8, 2) := by decide +kernel
theorem dX5_shuffle_127 : decode cX5_shuffle 127 = .ok (.aload 6, 2) := by decide +kernel
theorem dX5_shuffle_129 : decode cX5_shuffle 129 = .ok (.iload 4, 2) := by decide +kernel
theorem dX5_shuffle_131 : decode cX5_shuffle 131 = .ok (.invokevirtual 130, 3) := by decide +kernel
theorem dX5_shuffle_134 : decode cX5_shuffle 134 = .ok (.ifCond .eq 17, 3) := by decide +kernel
theorem dX5_shuffle_137 : decode cX5_shuffle 137 = .ok (.aload_n 0, 1) := by decide +kernel
theorem dX5_shuffle_138 : decode cX5_shuffle 138 = .ok (.getfield 20, 3) := by decide +kernel
theorem dX5_shuffle_141 : decode cX5_shuffle 141 = .ok (.iload 8, 2) := by decide +kernel
theorem dX5_shuffle_143 : decode cX5_shuffle 143 = .ok (.dup2, 1) := by decide +kernel
theorem dX5_shuffle_144 : decode cX5_shuffle 144 = .ok (.laload, 1) := by decide +kernel
theorem dX5_shuffle_145 : decode cX5_shuffle 145 = .ok (.lconst 1, 1) := by decide +kernel
theorem dX5_shuffle_146 : decode cX5_shuffle 146 = .ok (.ladd, 1) := by decide +kernel
theorem dX5_shuffle_147 : decode cX5_shuffle 147 = .ok (.lastore, 1) := by decide +kernel
theorem dX5_shuffle_148 : decode cX5_shuffle 148 = .ok (.iinc 7 1, 3) := by decide +kernel
theorem dX5_shuffle_151 : decode cX5_shuffle 151 = .ok (.iinc 8 1, 3) := by decide +kernel
theorem dX5_shuffle_154 : decode cX5_shuffle 154 = .ok (.goto (-60), 3) := by decide +kernel
theorem dX5_shuffle_157 : decode cX5_shuffle 157 = .ok (.aload_n 0, 1) := by decide +kernel
theorem dX5_shuffle_158 : decode cX5_shuffle 158 = .ok (.iload_n 1, 1) := by decide +kernel
theorem dX5_shuffle_159 : decode cX5_shuffle 159 = .ok (.iload 7, 2) := by decide +kernel
theorem dX5_shuffle_161 : decode cX5_shuffle 161 = .ok (.invokevirtual 90, 3) := by decide +kernel
theorem dX5_shuffle_164 : decode cX5_shuffle 164 = .ok (.ireturn, 1) := by decide +kernel
set_option maxRecDepth 20000 in
theorem ggX5_orderOf_X5_isOrder : GoodIn wsX5_orderOf wsX5_isOrder := goodIn_r _ [12, 2, 13, 14, 15, 11, 16, 39, 40, 41, 42, 43, 44, 45, 46, 47, 48, 49, 50, 51, 52, 53, 54, 55, 56, 57, 58] (by decide +kernel) (by decide +kernel)
set_option maxRecDepth 20000 in
theorem gX5_orderOf_X5_isOrder : GoodIn wsX5_orderOf (wsV RX5 83 RX5 yX5_isOrder wsX5_isOrder) := goodIn_app (goodIn_of _ (by decide +kernel)) ggX5_orderOf_X5_isOrder
set_option maxRecDepth 20000 in
theorem ggX5_orderOf_X5_isWithin : GoodIn wsX5_orderOf wsX5_isWithin := goodIn_r _ [16] (by decide +kernel) (by decide +kernel)
set_option maxRecDepth 20000 in
theorem gX5_orderOf_X5_isWithin : GoodIn wsX5_orderOf (va_wsS RX5 63 yX5_isWithin wsX5_isWithin) := goodIn_app (goodIn_of _ (by decide +kernel)) ggX5_orderOf_X5_isWithin
set_option maxRecDepth 20000 in
theorem ggX5_orderOf_X1_letterAt : GoodIn wsX5_orderOf wsX1_letterAt := goodIn_r _ [21, 22, 23, 48, 49, 50, 51, 52, 53, 54, 55, 56, 57, 58] (by decide +kernel) (by decide +kernel)
set_option maxRecDepth 20000 in
theorem gX5_orderOf_X1_letterAt : GoodIn wsX5_orderOf (wsV RX5 133 RX1 yX1_letterAt wsX1_letterAt) := goodIn_app (goodIn_of _ (by decide +kernel)) ggX5_orderOf_X1_letterAt
set_option maxRecDepth 20000 in
theorem ggX5_orderOf_X1_parityOf : GoodIn wsX5_orderOf wsX1_parityOf := goodIn_r _ [27, 28, 48, 49, 50, 51, 52, 53, 54, 55, 56, 57, 58] (by decide +kernel) (by decide +kernel)
set_option maxRecDepth 20000 in
theorem gX5_orderOf_X1_parityOf : GoodIn wsX5_orderOf (wsV RX5 120 RX1 yX1_parityOf wsX1_parityOf) := goodIn_app (goodIn_of _ (by decide +kernel)) ggX5_orderOf_X1_parityOf
set_option maxRecDepth 20000 in
theorem ggX5_orderOf_X1_descentsAddedUp : GoodIn wsX5_orderOf wsX1_descentsAddedUp := goodIn_r _ [32, 23, 33, 48, 49, 50, 51, 52, 53, 54, 55, 56, 57, 58] (by decide +kernel) (by decide +kernel)
set_option maxRecDepth 20000 in
theorem gX5_orderOf_X1_descentsAddedUp : GoodIn wsX5_orderOf (wsV RX5 145 RX1 yX1_descentsAddedUp wsX1_descentsAddedUp) := goodIn_app (goodIn_of _ (by decide +kernel)) ggX5_orderOf_X1_descentsAddedUp
set_option maxRecDepth 20000 in
theorem ggX5_orderOf_X1_ringsOf : GoodIn wsX5_orderOf wsX1_ringsOf := goodIn_r _ [37, 23, 38, 18, 19, 20, 21, 22, 48, 49, 50, 51, 52, 53, 54, 55, 56, 57, 58] (by decide +kernel) (by decide +kernel)
set_option maxRecDepth 20000 in
theorem gX5_orderOf_X1_ringsOf : GoodIn wsX5_orderOf (wsV RX5 148 RX1 yX1_ringsOf wsX1_ringsOf) := goodIn_app (goodIn_of _ (by decide +kernel)) ggX5_orderOf_X1_ringsOf
theorem dX5_orderOf_0 : decode cX5_orderOf 0 = .ok (.aload_n 0, 1) := by decide +kernel
theorem dX5_orderOf_1 : decode cX5_orderOf 1 = .ok (.iload_n 1, 1) := by decide +kernel
theorem dX5_orderOf_2 : decode cX5_orderOf 2 = .ok (.invokevirtual 83, 3) := by decide +kernel
theorem dX5_orderOf_5 : decode cX5_orderOf 5 = .ok (.ifCond .ne 6, 3) := by decide +kernel
theorem dX5_orderOf_8 : decode cX5_orderOf 8 = .ok (.ldc 67, 2) := by decide +kernel
theorem dX5_orderOf_10 : decode cX5_orderOf 10 = .ok (.ireturn, 1) := by decide +kernel
theorem dX5_orderOf_11 : decode cX5_orderOf 11 = .ok (.iload_n 2, 1) := by decide +kernel
theorem dX5_orderOf_12 : decode cX5_orderOf 12 = .ok (.bipush 10, 2) := by decide +kernel
theorem dX5_orderOf_14 : decode cX5_orderOf 14 = .ok (.bipush 10, 2) := by decide +kernel
theorem dX5_orderOf_16 : decode cX5_orderOf 16 = .ok (.aload_n 0, 1) := by decide +kernel
theorem dX5_orderOf_17 : decode cX5_orderOf 17 = .ok (.getfield 59, 3) := by decide +kernel
theorem dX5_orderOf_20 : decode cX5_orderOf 20 = .ok (.getfield 68, 3) := by decide +kernel
theorem dX5_orderOf_23 : decode cX5_orderOf 23 = .ok (.iadd, 1) := by decide +kernel
theorem dX5_orderOf_24 : decode cX5_orderOf 24 = .ok (.iconst 1, 1) := by decide +kernel
theorem dX5_orderOf_25 : decode cX5_orderOf 25 = .ok (.isub, 1) := by decide +kernel
theorem dX5_orderOf_26 : decode cX5_orderOf 26 = .ok (.invokestatic 63, 3) := by decide +kernel
theorem dX5_orderOf_29 : decode cX5_orderOf 29 = .ok (.ifCond .eq 16, 3) := by decide +kernel
theorem dX5_orderOf_32 : decode cX5_orderOf 32 = .ok (.aload_n 0, 1) := by decide +kernel
theorem dX5_orderOf_33 : decode cX5_orderOf 33 = .ok (.getfield 59, 3) := by decide +kernel
theorem dX5_orderOf_36 : decode cX5_orderOf 36 = .ok (.iload_n 1, 1) := by decide +kernel
theorem dX5_orderOf_37 : decode cX5_orderOf 37 = .ok (.iload_n 2, 1) := by decide +kernel
theorem dX5_orderOf_38 : decode cX5_orderOf 38 = .ok (.bipush 10, 2) := by decide +kernel
theorem dX5_orderOf_40 : decode cX5_orderOf 40 = .ok (.isub, 1) := by decide +kernel
theorem dX5_orderOf_41 : decode cX5_orderOf 41 = .ok (.invokevirtual 133, 3) := by decide +kernel
theorem dX5_orderOf_44 : decode cX5_orderOf 44 = .ok (.ireturn, 1) := by decide +kernel
theorem dX5_orderOf_45 : decode cX5_orderOf 45 = .ok (.iload_n 2, 1) := by decide +kernel
theorem dX5_orderOf_46 : decode cX5_orderOf 46 = .ok (.tableswitch 109 0 6 #[42, 52, 62, 72, 81, 91, 100], 42) := by decide +kernel
theorem dX5_orderOf_88 : decode cX5_orderOf 88 = .ok (.aload_n 0, 1) := by decide +kernel
theorem dX5_orderOf_89 : decode cX5_orderOf 89 = .ok (.getfield 59, 3) := by decide +kernel
theorem dX5_orderOf_92 : decode cX5_orderOf 92 = .ok (.getfield 101, 3) := by decide +kernel
theorem dX5_orderOf_95 : decode cX5_orderOf 95 = .ok (.iload_n 1, 1) := by decide +kernel
theorem dX5_orderOf_96 : decode cX5_orderOf 96 = .ok (.iaload, 1) := by decide +kernel
theorem dX5_orderOf_97 : decode cX5_orderOf 97 = .ok (.ireturn, 1) := by decide +kernel
theorem dX5_orderOf_98 : decode cX5_orderOf 98 = .ok (.aload_n 0, 1) := by decide +kernel
theorem dX5_orderOf_99 : decode cX5_orderOf 99 = .ok (.getfield 59, 3) := by decide +kernel
theorem dX5_orderOf_102 : decode cX5_orderOf 102 = .ok (.getfield 136, 3) := by decide +kernel
theorem dX5_orderOf_105 : decode cX5_orderOf 105 = .ok (.iload_n 1, 1) := by decide +kernel
theorem dX5_orderOf_106 : decode cX5_orderOf 106 = .ok (.iaload, 1) := by decide +kernel
theorem dX5_orderOf_107 : decode cX5_orderOf 107 = .ok (.ireturn, 1) := by decide +kernel
theorem dX5_orderOf_108 : decode cX5_orderOf 108 = .ok (.aload_n 0, 1) := by decide +kernel
theorem dX5_orderOf_109 : decode cX5_orderOf 109 = .ok (.getfield 59, 3) := by decide +kernel
theorem dX5_orderOf_112 : decode cX5_orderOf 112 = .ok (.getfield 139, 3) := by decide +kernel
theorem dX5_orderOf_115 : decode cX5_orderOf 115 = .ok (.iload_n 1, 1) := by decide +kernel
theorem dX5_orderOf_116 : decode cX5_orderOf 116 = .ok (.iaload, 1) := by decide +kernel
theorem dX5_orderOf_117 : decode cX5_orderOf 117 = .ok (.ireturn, 1) := by decide +kernel
theorem dX5_orderOf_118 : decode cX5_orderOf 118 = .ok (.aload_n 0, 1) := by decide +kernel
theorem dX5_orderOf_119 : decode cX5_orderOf 119 = .ok (.getfield 59, 3) := by decide +kernel
theorem dX5_orderOf_122 : decode cX5_orderOf 122 = .ok (.iload_n 1, 1) := by decide +kernel
theorem dX5_orderOf_123 : decode cX5_orderOf 123 = .ok (.invokevirtual 120, 3) := by decide +kernel
theorem dX5_orderOf_126 : decode cX5_orderOf 126 = .ok (.ireturn, 1) := by decide +kernel
theorem dX5_orderOf_127 : decode cX5_orderOf 127 = .ok (.aload_n 0, 1) := by decide +kernel
theorem dX5_orderOf_128 : decode cX5_orderOf 128 = .ok (.getfield 59, 3) := by decide +kernel
theorem dX5_orderOf_131 : decode cX5_orderOf 131 = .ok (.getfield 142, 3) := by decide +kernel
theorem dX5_orderOf_134 : decode cX5_orderOf 134 = .ok (.iload_n 1, 1) := by decide +kernel
theorem dX5_orderOf_135 : decode cX5_orderOf 135 = .ok (.iaload, 1) := by decide +kernel
theorem dX5_orderOf_136 : decode cX5_orderOf 136 = .ok (.ireturn, 1) := by decide +kernel
theorem dX5_orderOf_137 : decode cX5_orderOf 137 = .ok (.aload_n 0, 1) := by decide +kernel
theorem dX5_orderOf_138 : decode cX5_orderOf 138 = .ok (.getfield 59, 3) := by decide +kernel
theorem dX5_orderOf_141 : decode cX5_orderOf 141 = .ok (.iload_n 1, 1) := by decide +kernel
theorem dX5_orderOf_142 : decode cX5_orderOf 142 = .ok (.invokevirtual 145, 3) := by decide +kernel
theorem dX5_orderOf_145 : decode cX5_orderOf 145 = .ok (.ireturn, 1) := by decide +kernel
theorem dX5_orderOf_146 : decode cX5_orderOf 146 = .ok (.aload_n 0, 1) := by decide +kernel
theorem dX5_orderOf_147 : decode cX5_orderOf 147 = .ok (.getfield 59, 3) := by decide +kernel
theorem dX5_orderOf_150 : decode cX5_orderOf 150 = .ok (.iload_n 1, 1) := by decide +kernel
theorem dX5_orderOf_151 : decode cX5_orderOf 151 = .ok (.invokevirtual 148, 3) := by decide +kernel
theorem dX5_orderOf_154 : decode cX5_orderOf 154 = .ok (.ireturn, 1) := by decide +kernel
theorem dX5_orderOf_155 : decode cX5_orderOf 155 = .ok (.ldc 67, 2) := by decide +kernel
theorem dX5_orderOf_157 : decode cX5_orderOf 157 = .ok (.ireturn, 1) := by decide +kernel
set_option maxRecDepth 20000 in
theorem ggX5_product_X5_isOrder : GoodIn wsX5_product wsX5_isOrder := goodIn_r _ [7, 2, 8, 9, 10, 6, 11, 19, 20, 21, 22, 23, 24, 25, 26, 27, 28, 29, 30, 31, 32, 33, 34, 35, 36, 37, 38] (by decide +kernel) (by decide +kernel)
set_option maxRecDepth 20000 in
theorem gX5_product_X5_isOrder : GoodIn wsX5_product (wsV RX5 83 RX5 yX5_isOrder wsX5_isOrder) := goodIn_app (goodIn_of _ (by decide +kernel)) ggX5_product_X5_isOrder
set_option maxRecDepth 20000 in
theorem ggX5_product_X1_times : GoodIn wsX5_product wsX1_times := goodIn_r _ [16, 17, 18, 28, 29, 30, 31, 32, 33, 34, 35, 36, 37, 38] (by decide +kernel) (by decide +kernel)
set_option maxRecDepth 20000 in
theorem gX5_product_X1_times : GoodIn wsX5_product (wsV RX5 151 RX1 yX1_times wsX1_times) := goodIn_app (goodIn_of _ (by decide +kernel)) ggX5_product_X1_times
theorem dX5_product_0 : decode cX5_product 0 = .ok (.aload_n 0, 1) := by decide +kernel
theorem dX5_product_1 : decode cX5_product 1 = .ok (.iload_n 1, 1) := by decide +kernel
theorem dX5_product_2 : decode cX5_product 2 = .ok (.invokevirtual 83, 3) := by decide +kernel
theorem dX5_product_5 : decode cX5_product 5 = .ok (.ifCond .eq 11, 3) := by decide +kernel
theorem dX5_product_8 : decode cX5_product 8 = .ok (.aload_n 0, 1) := by decide +kernel
theorem dX5_product_9 : decode cX5_product 9 = .ok (.iload_n 2, 1) := by decide +kernel
theorem dX5_product_10 : decode cX5_product 10 = .ok (.invokevirtual 83, 3) := by decide +kernel
theorem dX5_product_13 : decode cX5_product 13 = .ok (.ifCond .ne 6, 3) := by decide +kernel
theorem dX5_product_16 : decode cX5_product 16 = .ok (.ldc 67, 2) := by decide +kernel
theorem dX5_product_18 : decode cX5_product 18 = .ok (.ireturn, 1) := by decide +kernel
theorem dX5_product_19 : decode cX5_product 19 = .ok (.aload_n 0, 1) := by decide +kernel
theorem dX5_product_20 : decode cX5_product 20 = .ok (.getfield 59, 3) := by decide +kernel
theorem dX5_product_23 : decode cX5_product 23 = .ok (.iload_n 1, 1) := by decide +kernel
theorem dX5_product_24 : decode cX5_product 24 = .ok (.iload_n 2, 1) := by decide +kernel
theorem dX5_product_25 : decode cX5_product 25 = .ok (.invokevirtual 151, 3) := by decide +kernel
theorem dX5_product_28 : decode cX5_product 28 = .ok (.ireturn, 1) := by decide +kernel
set_option maxRecDepth 20000 in
theorem ggX5_factor_X5_isSum : GoodIn wsX5_factor wsX5_isSum := goodIn_r _ [6, 7, 8, 5, 9] (by decide +kernel) (by decide +kernel)
set_option maxRecDepth 20000 in
theorem gX5_factor_X5_isSum : GoodIn wsX5_factor (va_wsS RX5 79 yX5_isSum wsX5_isSum) := goodIn_app (goodIn_of _ (by decide +kernel)) ggX5_factor_X5_isSum
set_option maxRecDepth 20000 in
theorem ggX5_factor_X5_isOrder : GoodIn wsX5_factor wsX5_isOrder := goodIn_r _ [13, 14, 15, 7, 8, 5, 9, 16, 17, 18, 19, 20, 21, 22, 23, 24, 25, 26, 27, 28, 29, 30, 31, 32, 33, 34, 35] (by decide +kernel) (by decide +kernel)
set_option maxRecDepth 20000 in
theorem gX5_factor_X5_isOrder : GoodIn wsX5_factor (wsV RX5 83 RX5 yX5_isOrder wsX5_isOrder) := goodIn_app (goodIn_of _ (by decide +kernel)) ggX5_factor_X5_isOrder
theorem dX5_factor_0 : decode cX5_factor 0 = .ok (.iload_n 1, 1) := by decide +kernel
theorem dX5_factor_1 : decode cX5_factor 1 = .ok (.invokestatic 79, 3) := by decide +kernel
theorem dX5_factor_4 : decode cX5_factor 4 = .ok (.ifCond .eq 11, 3) := by decide +kernel
theorem dX5_factor_7 : decode cX5_factor 7 = .ok (.aload_n 0, 1) := by decide +kernel
theorem dX5_factor_8 : decode cX5_factor 8 = .ok (.iload_n 2, 1) := by decide +kernel
theorem dX5_factor_9 : decode cX5_factor 9 = .ok (.invokevirtual 83, 3) := by decide +kernel
theorem dX5_factor_12 : decode cX5_factor 12 = .ok (.ifCond .ne 6, 3) := by decide +kernel
theorem dX5_factor_15 : decode cX5_factor 15 = .ok (.ldc 67, 2) := by decide +kernel
theorem dX5_factor_17 : decode cX5_factor 17 = .ok (.ireturn, 1) := by decide +kernel
theorem dX5_factor_18 : decode cX5_factor 18 = .ok (.aload_n 0, 1) := by decide +kernel
theorem dX5_factor_19 : decode cX5_factor 19 = .ok (.getfield 17, 3) := by decide +kernel
theorem dX5_factor_22 : decode cX5_factor 22 = .ok (.iload_n 1, 1) := by decide +kernel
theorem dX5_factor_23 : decode cX5_factor 23 = .ok (.aaload, 1) := by decide +kernel
theorem dX5_factor_24 : decode cX5_factor 24 = .ok (.iload_n 2, 1) := by decide +kernel
theorem dX5_factor_25 : decode cX5_factor 25 = .ok (.iaload, 1) := by decide +kernel
theorem dX5_factor_26 : decode cX5_factor 26 = .ok (.ireturn, 1) := by decide +kernel
set_option maxRecDepth 20000 in
theorem ggX5_termOf_X5_isSum : GoodIn wsX5_termOf wsX5_isSum := goodIn_r _ [9, 10, 11, 8, 12] (by decide +kernel) (by decide +kernel)
set_option maxRecDepth 20000 in
theorem gX5_termOf_X5_isSum : GoodIn wsX5_termOf (va_wsS RX5 79 yX5_isSum wsX5_isSum) := goodIn_app (goodIn_of _ (by decide +kernel)) ggX5_termOf_X5_isSum
set_option maxRecDepth 20000 in
theorem ggX5_termOf_X5_isWithin : GoodIn wsX5_termOf wsX5_isWithin := goodIn_r _ [12] (by decide +kernel) (by decide +kernel)
set_option maxRecDepth 20000 in
theorem gX5_termOf_X5_isWithin : GoodIn wsX5_termOf (va_wsS RX5 63 yX5_isWithin wsX5_isWithin) := goodIn_app (goodIn_of _ (by decide +kernel)) ggX5_termOf_X5_isWithin
theorem dX5_termOf_0 : decode cX5_termOf 0 = .ok (.iload_n 1, 1) := by decide +kernel
theorem dX5_termOf_1 : decode cX5_termOf 1 = .ok (.invokestatic 79, 3) := by decide +kernel
theorem dX5_termOf_4 : decode cX5_termOf 4 = .ok (.ifCond .eq 16, 3) := by decide +kernel
theorem dX5_termOf_7 : decode cX5_termOf 7 = .ok (.iload_n 2, 1) := by decide +kernel
theorem dX5_termOf_8 : decode cX5_termOf 8 = .ok (.ifCond .lt 12, 3) := by decide +kernel
theorem dX5_termOf_11 : decode cX5_termOf 11 = .ok (.iload_n 3, 1) := by decide +kernel
theorem dX5_termOf_12 : decode cX5_termOf 12 = .ok (.iconst 0, 1) := by decide +kernel
theorem dX5_termOf_13 : decode cX5_termOf 13 = .ok (.iconst 1, 1) := by decide +kernel
theorem dX5_termOf_14 : decode cX5_termOf 14 = .ok (.invokestatic 63, 3) := by decide +kernel
theorem dX5_termOf_17 : decode cX5_termOf 17 = .ok (.ifCond .ne 6, 3) := by decide +kernel
theorem dX5_termOf_20 : decode cX5_termOf 20 = .ok (.ldc 67, 2) := by decide +kernel
theorem dX5_termOf_22 : decode cX5_termOf 22 = .ok (.ireturn, 1) := by decide +kernel
theorem dX5_termOf_23 : decode cX5_termOf 23 = .ok (.iconst 0, 1) := by decide +kernel
theorem dX5_termOf_24 : decode cX5_termOf 24 = .ok (.istore 4, 2) := by decide +kernel
theorem dX5_termOf_26 : decode cX5_termOf 26 = .ok (.iconst 0, 1) := by decide +kernel
theorem dX5_termOf_27 : decode cX5_termOf 27 = .ok (.istore 5, 2) := by decide +kernel
theorem dX5_termOf_29 : decode cX5_termOf 29 = .ok (.iload 5, 2) := by decide +kernel
theorem dX5_termOf_31 : decode cX5_termOf 31 = .ok (.aload_n 0, 1) := by decide +kernel
theorem dX5_termOf_32 : decode cX5_termOf 32 = .ok (.getfield 59, 3) := by decide +kernel
theorem dX5_termOf_35 : decode cX5_termOf 35 = .ok (.getfield 76, 3) := by decide +kernel
theorem dX5_termOf_38 : decode cX5_termOf 38 = .ok (.if_icmp .ge 49, 3) := by decide +kernel
theorem dX5_termOf_41 : decode cX5_termOf 41 = .ok (.aload_n 0, 1) := by decide +kernel
theorem dX5_termOf_42 : decode cX5_termOf 42 = .ok (.getfield 17, 3) := by decide +kernel
theorem dX5_termOf_45 : decode cX5_termOf 45 = .ok (.iload_n 1, 1) := by decide +kernel
theorem dX5_termOf_46 : decode cX5_termOf 46 = .ok (.aaload, 1) := by decide +kernel
theorem dX5_termOf_47 : decode cX5_termOf 47 = .ok (.iload 5, 2) := by decide +kernel
theorem dX5_termOf_49 : decode cX5_termOf 49 = .ok (.iaload, 1) := by decide +kernel
theorem dX5_termOf_50 : decode cX5_termOf 50 = .ok (.ifCond .eq 31, 3) := by decide +kernel
theorem dX5_termOf_53 : decode cX5_termOf 53 = .ok (.iload 4, 2) := by decide +kernel
theorem dX5_termOf_55 : decode cX5_termOf 55 = .ok (.iload_n 2, 1) := by decide +kernel
theorem dX5_termOf_56 : decode cX5_termOf 56 = .ok (.if_icmp .ne 22, 3) := by decide +kernel
theorem dX5_termOf_59 : decode cX5_termOf 59 = .ok (.iload_n 3, 1) := by decide +kernel
theorem dX5_termOf_60 : decode cX5_termOf 60 = .ok (.ifCond .ne 8, 3) := by decide +kernel
theorem dX5_termOf_63 : decode cX5_termOf 63 = .ok (.iload 5, 2) := by decide +kernel
theorem dX5_termOf_65 : decode cX5_termOf 65 = .ok (.goto 12, 3) := by decide +kernel
theorem dX5_termOf_68 : decode cX5_termOf 68 = .ok (.aload_n 0, 1) := by decide +kernel
theorem dX5_termOf_69 : decode cX5_termOf 69 = .ok (.getfield 17, 3) := by decide +kernel
theorem dX5_termOf_72 : decode cX5_termOf 72 = .ok (.iload_n 1, 1) := by decide +kernel
theorem dX5_termOf_73 : decode cX5_termOf 73 = .ok (.aaload, 1) := by decide +kernel
theorem dX5_termOf_74 : decode cX5_termOf 74 = .ok (.iload 5, 2) := by decide +kernel
theorem dX5_termOf_76 : decode cX5_termOf 76 = .ok (.iaload, 1) := by decide +kernel
theorem dX5_termOf_77 : decode cX5_termOf 77 = .ok (.ireturn, 1) := by decide +kernel
theorem dX5_termOf_78 : decode cX5_termOf 78 = .ok (.iinc 4 1, 3) := by decide +kernel
theorem dX5_termOf_81 : decode cX5_termOf 81 = .ok (.iinc 5 1, 3) := by decide +kernel
theorem dX5_termOf_84 : decode cX5_termOf 84 = .ok (.goto (-55), 3) := by decide +kernel
theorem dX5_termOf_87 : decode cX5_termOf 87 = .ok (.ldc 154, 2) := by decide +kernel
theorem dX5_termOf_89 : decode cX5_termOf 89 = .ok (.ireturn, 1) := by decide +kernel
set_option maxRecDepth 20000 in
theorem ggX5_sumOf_X5_isSum : GoodIn wsX5_sumOf wsX5_isSum := goodIn_r _ [5, 6, 7, 4, 8] (by decide +kernel) (by decide +kernel)
set_option maxRecDepth 20000 in
theorem gX5_sumOf_X5_isSum : GoodIn wsX5_sumOf (va_wsS RX5 79 yX5_isSum wsX5_isSum) := goodIn_app (goodIn_of _ (by decide +kernel)) ggX5_sumOf_X5_isSum
set_option maxRecDepth 20000 in
theorem ggX5_sumOf_X5_termsIn : GoodIn wsX5_sumOf wsX5_termsIn := goodIn_r _ [12, 13, 14, 15, 41, 42, 43, 44, 45, 46, 47, 48, 49, 50, 51, 52, 53, 54, 55, 56, 57, 58, 59, 60] (by decide +kernel) (by decide +kernel)
set_option maxRecDepth 20000 in
theorem gX5_sumOf_X5_termsIn : GoodIn wsX5_sumOf (wsV RX5 105 RX5 yX5_termsIn wsX5_termsIn) := goodIn_app (goodIn_of _ (by decide +kernel)) ggX5_sumOf_X5_termsIn
set_option maxRecDepth 20000 in
theorem ggX5_sumOf_X5_factorsAddedUp : GoodIn wsX5_sumOf wsX5_factorsAddedUp := goodIn_r _ [19, 13, 14, 15, 41, 42, 43, 44, 45, 46, 47, 48, 49, 50, 51, 52, 53, 54, 55, 56, 57, 58, 59, 60] (by decide +kernel) (by decide +kernel)
set_option maxRecDepth 20000 in
theorem gX5_sumOf_X5_factorsAddedUp : GoodIn wsX5_sumOf (wsV RX5 155 RX5 yX5_factorsAddedUp wsX5_factorsAddedUp) := goodIn_app (goodIn_of _ (by decide +kernel)) ggX5_sumOf_X5_factorsAddedUp
set_option maxRecDepth 20000 in
theorem ggX5_sumOf_X5_goesByDescents : GoodIn wsX5_sumOf wsX5_goesByDescents := goodIn_r _ [23, 13, 14, 15, 24, 25, 41, 42, 43, 44, 45, 46, 47, 48, 49, 50, 51, 52, 53, 54, 55, 56, 57, 58, 59, 60] (by decide +kernel) (by decide +kernel)
set_option maxRecDepth 20000 in
theorem gX5_sumOf_X5_goesByDescents : GoodIn wsX5_sumOf (wsV RX5 158 RX5 yX5_goesByDescents wsX5_goesByDescents) := goodIn_app (goodIn_of _ (by decide +kernel)) ggX5_sumOf_X5_goesByDescents
set_option maxRecDepth 20000 in
theorem ggX5_sumOf_X5_greatestIn : GoodIn wsX5_sumOf wsX5_greatestIn := goodIn_r _ [29, 15, 13, 14, 30, 31, 32, 33, 41, 42, 43, 44, 45, 46, 47, 48, 49, 50, 51, 52, 53, 54, 55, 56, 57, 58, 59, 60] (by decide +kernel) (by decide +kernel)
set_option maxRecDepth 20000 in
theorem gX5_sumOf_X5_greatestIn : GoodIn wsX5_sumOf (wsV RX5 161 RX5 yX5_greatestIn wsX5_greatestIn) := goodIn_app (goodIn_of _ (by decide +kernel)) ggX5_sumOf_X5_greatestIn
set_option maxRecDepth 20000 in
theorem ggX5_sumOf_X5_leastIn : GoodIn wsX5_sumOf wsX5_leastIn := goodIn_r _ [37, 15, 13, 14, 38, 39, 32, 40, 41, 42, 43, 44, 45, 46, 47, 48, 49, 50, 51, 52, 53, 54, 55, 56, 57, 58, 59, 60] (by decide +kernel) (by decide +kernel)
set_option maxRecDepth 20000 in
theorem gX5_sumOf_X5_leastIn : GoodIn wsX5_sumOf (wsV RX5 164 RX5 yX5_leastIn wsX5_leastIn) := goodIn_app (goodIn_of _ (by decide +kernel)) ggX5_sumOf_X5_leastIn
theorem dX5_sumOf_0 : decode cX5_sumOf 0 = .ok (.iload_n 1, 1) := by decide +kernel
theorem dX5_sumOf_1 : decode cX5_sumOf 1 = .ok (.invokestatic 79, 3) := by decide +kernel
theorem dX5_sumOf_4 : decode cX5_sumOf 4 = .ok (.ifCond .ne 6, 3) := by decide +kernel
theorem dX5_sumOf_7 : decode cX5_sumOf 7 = .ok (.ldc 67, 2) := by decide +kernel
theorem dX5_sumOf_9 : decode cX5_sumOf 9 = .ok (.ireturn, 1) := by decide +kernel
theorem dX5_sumOf_10 : decode cX5_sumOf 10 = .ok (.iload_n 2, 1) := by decide +kernel
theorem dX5_sumOf_11 : decode cX5_sumOf 11 = .ok (.tableswitch 71 0 4 #[33, 39, 45, 59, 65], 33) := by decide +kernel
theorem dX5_sumOf_44 : decode cX5_sumOf 44 = .ok (.aload_n 0, 1) := by decide +kernel
theorem dX5_sumOf_45 : decode cX5_sumOf 45 = .ok (.iload_n 1, 1) := by decide +kernel
theorem dX5_sumOf_46 : decode cX5_sumOf 46 = .ok (.invokevirtual 105, 3) := by decide +kernel
theorem dX5_sumOf_49 : decode cX5_sumOf 49 = .ok (.ireturn, 1) := by decide +kernel
theorem dX5_sumOf_50 : decode cX5_sumOf 50 = .ok (.aload_n 0, 1) := by decide +kernel
theorem dX5_sumOf_51 : decode cX5_sumOf 51 = .ok (.iload_n 1, 1) := by decide +kernel
theorem dX5_sumOf_52 : decode cX5_sumOf 52 = .ok (.invokevirtual 155, 3) := by decide +kernel
theorem dX5_sumOf_55 : decode cX5_sumOf 55 = .ok (.ireturn, 1) := by decide +kernel
theorem dX5_sumOf_56 : decode cX5_sumOf 56 = .ok (.aload_n 0, 1) := by decide +kernel
theorem dX5_sumOf_57 : decode cX5_sumOf 57 = .ok (.iload_n 1, 1) := by decide +kernel
theorem dX5_sumOf_58 : decode cX5_sumOf 58 = .ok (.invokevirtual 158, 3) := by decide +kernel
theorem dX5_sumOf_61 : decode cX5_sumOf 61 = .ok (.ifCond .eq 7, 3) := by decide +kernel
theorem dX5_sumOf_64 : decode cX5_sumOf 64 = .ok (.iconst 1, 1) := by decide +kernel
theorem dX5_sumOf_65 : decode cX5_sumOf 65 = .ok (.goto 4, 3) := by decide +kernel
theorem dX5_sumOf_68 : decode cX5_sumOf 68 = .ok (.iconst 0, 1) := by decide +kernel
theorem dX5_sumOf_69 : decode cX5_sumOf 69 = .ok (.ireturn, 1) := by decide +kernel
theorem dX5_sumOf_70 : decode cX5_sumOf 70 = .ok (.aload_n 0, 1) := by decide +kernel
theorem dX5_sumOf_71 : decode cX5_sumOf 71 = .ok (.iload_n 1, 1) := by decide +kernel
theorem dX5_sumOf_72 : decode cX5_sumOf 72 = .ok (.invokevirtual 161, 3) := by decide +kernel
theorem dX5_sumOf_75 : decode cX5_sumOf 75 = .ok (.ireturn, 1) := by decide +kernel
theorem dX5_sumOf_76 : decode cX5_sumOf 76 = .ok (.aload_n 0, 1) := by decide +kernel
theorem dX5_sumOf_77 : decode cX5_sumOf 77 = .ok (.iload_n 1, 1) := by decide +kernel
theorem dX5_sumOf_78 : decode cX5_sumOf 78 = .ok (.invokevirtual 164, 3) := by decide +kernel
theorem dX5_sumOf_81 : decode cX5_sumOf 81 = .ok (.ireturn, 1) := by decide +kernel
theorem dX5_sumOf_82 : decode cX5_sumOf 82 = .ok (.ldc 67, 2) := by decide +kernel
theorem dX5_sumOf_84 : decode cX5_sumOf 84 = .ok (.ireturn, 1) := by decide +kernel
set_option maxRecDepth 20000 in
theorem ggX5_classOf_X5_isSum : GoodIn wsX5_classOf wsX5_isSum := goodIn_r _ [11, 12, 13, 10, 14] (by decide +kernel) (by decide +kernel)
set_option maxRecDepth 20000 in
theorem gX5_classOf_X5_isSum : GoodIn wsX5_classOf (va_wsS RX5 79 yX5_isSum wsX5_isSum) := goodIn_app (goodIn_of _ (by decide +kernel)) ggX5_classOf_X5_isSum
set_option maxRecDepth 20000 in
theorem ggX5_classOf_X5_isSet : GoodIn wsX5_classOf wsX5_isSet := goodIn_r _ [18, 4, 6, 12, 13, 10, 14, 36, 37, 38, 39, 40, 41, 42, 43, 44, 45, 46, 47, 48, 49, 50, 51, 52, 53, 54, 55] (by decide +kernel) (by decide +kernel)
set_option maxRecDepth 20000 in
theorem gX5_classOf_X5_isSet : GoodIn wsX5_classOf (wsV RX5 94 RX5 yX5_isSet wsX5_isSet) := goodIn_app (goodIn_of _ (by decide +kernel)) ggX5_classOf_X5_isSet
set_option maxRecDepth 20000 in
theorem ggX5_classOf_X5_isWithin : GoodIn wsX5_classOf wsX5_isWithin := goodIn_r _ [14] (by decide +kernel) (by decide +kernel)
set_option maxRecDepth 20000 in
theorem gX5_classOf_X5_isWithin : GoodIn wsX5_classOf (va_wsS RX5 63 yX5_isWithin wsX5_isWithin) := goodIn_app (goodIn_of _ (by decide +kernel)) ggX5_classOf_X5_isWithin
set_option maxRecDepth 20000 in
theorem ggX5_classOf_X5_goesByDescents : GoodIn wsX5_classOf wsX5_goesByDescents := goodIn_r _ [22, 4, 23, 3, 5, 24, 36, 37, 38, 39, 40, 41, 42, 43, 44, 45, 46, 47, 48, 49, 50, 51, 52, 53, 54, 55] (by decide +kernel) (by decide +kernel)
set_option maxRecDepth 20000 in
theorem gX5_classOf_X5_goesByDescents : GoodIn wsX5_classOf (wsV RX5 158 RX5 yX5_goesByDescents wsX5_goesByDescents) := goodIn_app (goodIn_of _ (by decide +kernel)) ggX5_classOf_X5_goesByDescents
set_option maxRecDepth 20000 in
theorem ggX5_classOf_X5_wideFactor : GoodIn wsX5_classOf wsX5_wideFactor := goodIn_r _ [28, 4, 6, 7, 29, 30, 31, 32, 33, 34, 35, 36, 37, 38, 39, 40, 41, 42, 43, 44, 45, 46, 47, 48, 49, 50, 51, 52, 53, 54, 55] (by decide +kernel) (by decide +kernel)
set_option maxRecDepth 20000 in
theorem gX5_classOf_X5_wideFactor : GoodIn wsX5_classOf (wsV RX5 173 RX5 yX5_wideFactor wsX5_wideFactor) := goodIn_app (goodIn_of _ (by decide +kernel)) ggX5_classOf_X5_wideFactor
theorem dX5_classOf_0 : decode cX5_classOf 0 = .ok (.iload_n 1, 1) := by decide +kernel
theorem dX5_classOf_1 : decode cX5_classOf 1 = .ok (.invokestatic 79, 3) := by decide +kernel
theorem dX5_classOf_4 : decode cX5_classOf 4 = .ok (.ifCond .eq 20, 3) := by decide +kernel
theorem dX5_classOf_7 : decode cX5_classOf 7 = .ok (.aload_n 0, 1) := by decide +kernel
theorem dX5_classOf_8 : decode cX5_classOf 8 = .ok (.iload_n 2, 1) := by decide +kernel
theorem dX5_classOf_9 : decode cX5_classOf 9 = .ok (.invokevirtual 94, 3) := by decide +kernel
theorem dX5_classOf_12 : decode cX5_classOf 12 = .ok (.ifCond .eq 12, 3) := by decide +kernel
theorem dX5_classOf_15 : decode cX5_classOf 15 = .ok (.iload_n 3, 1) := by decide +kernel
theorem dX5_classOf_16 : decode cX5_classOf 16 = .ok (.iconst 0, 1) := by decide +kernel
theorem dX5_classOf_17 : decode cX5_classOf 17 = .ok (.iconst 1, 1) := by decide +kernel
theorem dX5_classOf_18 : decode cX5_classOf 18 = .ok (.invokestatic 63, 3) := by decide +kernel
theorem dX5_classOf_21 : decode cX5_classOf 21 = .ok (.ifCond .ne 6, 3) := by decide +kernel
theorem dX5_classOf_24 : decode cX5_classOf 24 = .ok (.ldc 67, 2) := by decide +kernel
theorem dX5_classOf_26 : decode cX5_classOf 26 = .ok (.ireturn, 1) := by decide +kernel
theorem dX5_classOf_27 : decode cX5_classOf 27 = .ok (.aload_n 0, 1) := by decide +kernel
theorem dX5_classOf_28 : decode cX5_classOf 28 = .ok (.iload_n 1, 1) := by decide +kernel
theorem dX5_classOf_29 : decode cX5_classOf 29 = .ok (.invokevirtual 158, 3) := by decide +kernel
theorem dX5_classOf_32 : decode cX5_classOf 32 = .ok (.ifCond .ne 6, 3) := by decide +kernel
theorem dX5_classOf_35 : decode cX5_classOf 35 = .ok (.ldc 154, 2) := by decide +kernel
theorem dX5_classOf_37 : decode cX5_classOf 37 = .ok (.ireturn, 1) := by decide +kernel
theorem dX5_classOf_38 : decode cX5_classOf 38 = .ok (.iload_n 3, 1) := by decide +kernel
theorem dX5_classOf_39 : decode cX5_classOf 39 = .ok (.ifCond .ne 20, 3) := by decide +kernel
theorem dX5_classOf_42 : decode cX5_classOf 42 = .ok (.aload_n 0, 1) := by decide +kernel
theorem dX5_classOf_43 : decode cX5_classOf 43 = .ok (.getfield 17, 3) := by decide +kernel
theorem dX5_classOf_46 : decode cX5_classOf 46 = .ok (.iload_n 1, 1) := by decide +kernel
theorem dX5_classOf_47 : decode cX5_classOf 47 = .ok (.aaload, 1) := by decide +kernel
theorem dX5_classOf_48 : decode cX5_classOf 48 = .ok (.aload_n 0, 1) := by decide +kernel
theorem dX5_classOf_49 : decode cX5_classOf 49 = .ok (.getfield 59, 3) := by decide +kernel
theorem dX5_classOf_52 : decode cX5_classOf 52 = .ok (.getfield 167, 3) := by decide +kernel
theorem dX5_classOf_55 : decode cX5_classOf 55 = .ok (.iload_n 2, 1) := by decide +kernel
theorem dX5_classOf_56 : decode cX5_classOf 56 = .ok (.iaload, 1) := by decide +kernel
theorem dX5_classOf_57 : decode cX5_classOf 57 = .ok (.iaload, 1) := by decide +kernel
theorem dX5_classOf_58 : decode cX5_classOf 58 = .ok (.ireturn, 1) := by decide +kernel
theorem dX5_classOf_59 : decode cX5_classOf 59 = .ok (.iconst 0, 1) := by decide +kernel
theorem dX5_classOf_60 : decode cX5_classOf 60 = .ok (.istore 4, 2) := by decide +kernel
theorem dX5_classOf_62 : decode cX5_classOf 62 = .ok (.iload 4, 2) := by decide +kernel
theorem dX5_classOf_64 : decode cX5_classOf 64 = .ok (.aload_n 0, 1) := by decide +kernel
theorem dX5_classOf_65 : decode cX5_classOf 65 = .ok (.getfield 59, 3) := by decide +kernel
theorem dX5_classOf_68 : decode cX5_classOf 68 = .ok (.getfield 170, 3) := by decide +kernel
theorem dX5_classOf_71 : decode cX5_classOf 71 = .ok (.if_icmp .ge 34, 3) := by decide +kernel
theorem dX5_classOf_74 : decode cX5_classOf 74 = .ok (.aload_n 0, 1) := by decide +kernel
theorem dX5_classOf_75 : decode cX5_classOf 75 = .ok (.getfield 24, 3) := by decide +kernel
theorem dX5_classOf_78 : decode cX5_classOf 78 = .ok (.iload 4, 2) := by decide +kernel
theorem dX5_classOf_80 : decode cX5_classOf 80 = .ok (.aload_n 0, 1) := by decide +kernel
theorem dX5_classOf_81 : decode cX5_classOf 81 = .ok (.getfield 17, 3) := by decide +kernel
theorem dX5_classOf_84 : decode cX5_classOf 84 = .ok (.iload_n 1, 1) := by decide +kernel
theorem dX5_classOf_85 : decode cX5_classOf 85 = .ok (.aaload, 1) := by decide +kernel
theorem dX5_classOf_86 : decode cX5_classOf 86 = .ok (.aload_n 0, 1) := by decide +kernel
theorem dX5_classOf_87 : decode cX5_classOf 87 = .ok (.getfield 59, 3) := by decide +kernel
theorem dX5_classOf_90 : decode cX5_classOf 90 = .ok (.getfield 167, 3) := by decide +kernel
theorem dX5_classOf_93 : decode cX5_classOf 93 = .ok (.iload 4, 2) := by decide +kernel
theorem dX5_classOf_95 : decode cX5_classOf 95 = .ok (.iaload, 1) := by decide +kernel
theorem dX5_classOf_96 : decode cX5_classOf 96 = .ok (.iaload, 1) := by decide +kernel
theorem dX5_classOf_97 : decode cX5_classOf 97 = .ok (.i2l, 1) := by decide +kernel
theorem dX5_classOf_98 : decode cX5_classOf 98 = .ok (.lastore, 1) := by decide +kernel
theorem dX5_classOf_99 : decode cX5_classOf 99 = .ok (.iinc 4 1, 3) := by decide +kernel
theorem dX5_classOf_102 : decode cX5_classOf 102 = .ok (.goto (-40), 3) := by decide +kernel
theorem dX5_classOf_105 : decode cX5_classOf 105 = .ok (.aload_n 0, 1) := by decide +kernel
theorem dX5_classOf_106 : decode cX5_classOf 106 = .ok (.iload_n 2, 1) := by decide +kernel
theorem dX5_classOf_107 : decode cX5_classOf 107 = .ok (.invokevirtual 173, 3) := by decide +kernel
theorem dX5_classOf_110 : decode cX5_classOf 110 = .ok (.ireturn, 1) := by decide +kernel
set_option maxRecDepth 20000 in
theorem ggX5_peakSum_X5_isSum : GoodIn wsX5_peakSum wsX5_isSum := goodIn_r _ [11, 12, 13, 10, 14] (by decide +kernel) (by decide +kernel)
set_option maxRecDepth 20000 in
theorem gX5_peakSum_X5_isSum : GoodIn wsX5_peakSum (va_wsS RX5 79 yX5_isSum wsX5_isSum) := goodIn_app (goodIn_of _ (by decide +kernel)) ggX5_peakSum_X5_isSum
set_option maxRecDepth 20000 in
theorem ggX5_peakSum_X5_isWithin : GoodIn wsX5_peakSum wsX5_isWithin := goodIn_r _ [14] (by decide +kernel) (by decide +kernel)
set_option maxRecDepth 20000 in
theorem gX5_peakSum_X5_isWithin : GoodIn wsX5_peakSum (va_wsS RX5 63 yX5_isWithin wsX5_isWithin) := goodIn_app (goodIn_of _ (by decide +kernel)) ggX5_peakSum_X5_isWithin
theorem dX5_peakSum_0 : decode cX5_peakSum 0 = .ok (.iload_n 1, 1) := by decide +kernel
theorem dX5_peakSum_1 : decode cX5_peakSum 1 = .ok (.invokestatic 79, 3) := by decide +kernel
theorem dX5_peakSum_4 : decode cX5_peakSum 4 = .ok (.ifCond .eq 22, 3) := by decide +kernel
theorem dX5_peakSum_7 : decode cX5_peakSum 7 = .ok (.iload_n 2, 1) := by decide +kernel
theorem dX5_peakSum_8 : decode cX5_peakSum 8 = .ok (.iconst 0, 1) := by decide +kernel
theorem dX5_peakSum_9 : decode cX5_peakSum 9 = .ok (.iconst 1, 1) := by decide +kernel
theorem dX5_peakSum_10 : decode cX5_peakSum 10 = .ok (.aload_n 0, 1) := by decide +kernel
theorem dX5_peakSum_11 : decode cX5_peakSum 11 = .ok (.getfield 59, 3) := by decide +kernel
theorem dX5_peakSum_14 : decode cX5_peakSum 14 = .ok (.getfield 68, 3) := by decide +kernel
theorem dX5_peakSum_17 : decode cX5_peakSum 17 = .ok (.ishl, 1) := by decide +kernel
theorem dX5_peakSum_18 : decode cX5_peakSum 18 = .ok (.iconst 1, 1) := by decide +kernel
theorem dX5_peakSum_19 : decode cX5_peakSum 19 = .ok (.isub, 1) := by decide +kernel
theorem dX5_peakSum_20 : decode cX5_peakSum 20 = .ok (.invokestatic 63, 3) := by decide +kernel
theorem dX5_peakSum_23 : decode cX5_peakSum 23 = .ok (.ifCond .ne 6, 3) := by decide +kernel
theorem dX5_peakSum_26 : decode cX5_peakSum 26 = .ok (.ldc 67, 2) := by decide +kernel
theorem dX5_peakSum_28 : decode cX5_peakSum 28 = .ok (.ireturn, 1) := by decide +kernel
theorem dX5_peakSum_29 : decode cX5_peakSum 29 = .ok (.iconst 0, 1) := by decide +kernel
theorem dX5_peakSum_30 : decode cX5_peakSum 30 = .ok (.istore_n 3, 1) := by decide +kernel
theorem dX5_peakSum_31 : decode cX5_peakSum 31 = .ok (.iconst 0, 1) := by decide +kernel
theorem dX5_peakSum_32 : decode cX5_peakSum 32 = .ok (.istore 4, 2) := by decide +kernel
theorem dX5_peakSum_34 : decode cX5_peakSum 34 = .ok (.iconst 0, 1) := by decide +kernel
theorem dX5_peakSum_35 : decode cX5_peakSum 35 = .ok (.istore 5, 2) := by decide +kernel
theorem dX5_peakSum_37 : decode cX5_peakSum 37 = .ok (.iload 5, 2) := by decide +kernel
theorem dX5_peakSum_39 : decode cX5_peakSum 39 = .ok (.aload_n 0, 1) := by decide +kernel
theorem dX5_peakSum_40 : decode cX5_peakSum 40 = .ok (.getfield 59, 3) := by decide +kernel
theorem dX5_peakSum_43 : decode cX5_peakSum 43 = .ok (.getfield 76, 3) := by decide +kernel
theorem dX5_peakSum_46 : decode cX5_peakSum 46 = .ok (.if_icmp .ge 38, 3) := by decide +kernel
theorem dX5_peakSum_49 : decode cX5_peakSum 49 = .ok (.aload_n 0, 1) := by decide +kernel
theorem dX5_peakSum_50 : decode cX5_peakSum 50 = .ok (.getfield 59, 3) := by decide +kernel
theorem dX5_peakSum_53 : decode cX5_peakSum 53 = .ok (.getfield 136, 3) := by decide +kernel
theorem dX5_peakSum_56 : decode cX5_peakSum 56 = .ok (.iload 5, 2) := by decide +kernel
theorem dX5_peakSum_58 : decode cX5_peakSum 58 = .ok (.iaload, 1) := by decide +kernel
theorem dX5_peakSum_59 : decode cX5_peakSum 59 = .ok (.iload_n 2, 1) := by decide +kernel
theorem dX5_peakSum_60 : decode cX5_peakSum 60 = .ok (.if_icmp .ne 18, 3) := by decide +kernel
theorem dX5_peakSum_63 : decode cX5_peakSum 63 = .ok (.iload_n 3, 1) := by decide +kernel
theorem dX5_peakSum_64 : decode cX5_peakSum 64 = .ok (.aload_n 0, 1) := by decide +kernel
theorem dX5_peakSum_65 : decode cX5_peakSum 65 = .ok (.getfield 17, 3) := by decide +kernel
theorem dX5_peakSum_68 : decode cX5_peakSum 68 = .ok (.iload_n 1, 1) := by decide +kernel
theorem dX5_peakSum_69 : decode cX5_peakSum 69 = .ok (.aaload, 1) := by decide +kernel
theorem dX5_peakSum_70 : decode cX5_peakSum 70 = .ok (.iload 5, 2) := by decide +kernel
theorem dX5_peakSum_72 : decode cX5_peakSum 72 = .ok (.iaload, 1) := by decide +kernel
theorem dX5_peakSum_73 : decode cX5_peakSum 73 = .ok (.iadd, 1) := by decide +kernel
theorem dX5_peakSum_74 : decode cX5_peakSum 74 = .ok (.istore_n 3, 1) := by decide +kernel
theorem dX5_peakSum_75 : decode cX5_peakSum 75 = .ok (.iconst 1, 1) := by decide +kernel
theorem dX5_peakSum_76 : decode cX5_peakSum 76 = .ok (.istore 4, 2) := by decide +kernel
theorem dX5_peakSum_78 : decode cX5_peakSum 78 = .ok (.iinc 5 1, 3) := by decide +kernel
theorem dX5_peakSum_81 : decode cX5_peakSum 81 = .ok (.goto (-44), 3) := by decide +kernel
theorem dX5_peakSum_84 : decode cX5_peakSum 84 = .ok (.iload 4, 2) := by decide +kernel
theorem dX5_peakSum_86 : decode cX5_peakSum 86 = .ok (.ifCond .eq 7, 3) := by decide +kernel
theorem dX5_peakSum_89 : decode cX5_peakSum 89 = .ok (.iload_n 3, 1) := by decide +kernel
theorem dX5_peakSum_90 : decode cX5_peakSum 90 = .ok (.goto 5, 3) := by decide +kernel
theorem dX5_peakSum_93 : decode cX5_peakSum 93 = .ok (.ldc 154, 2) := by decide +kernel
theorem dX5_peakSum_95 : decode cX5_peakSum 95 = .ok (.ireturn, 1) := by decide +kernel
set_option maxRecDepth 20000 in
theorem ggX5_square_X5_isSum : GoodIn wsX5_square wsX5_isSum := goodIn_r _ [10, 11, 12, 9, 13] (by decide +kernel) (by decide +kernel)
set_option maxRecDepth 20000 in
theorem gX5_square_X5_isSum : GoodIn wsX5_square (va_wsS RX5 79 yX5_isSum wsX5_isSum) := goodIn_app (goodIn_of _ (by decide +kernel)) ggX5_square_X5_isSum
set_option maxRecDepth 20000 in
theorem ggX5_square_X5_makeProduct : GoodIn wsX5_square wsX5_makeProduct := goodIn_r _ [17, 5, 6, 4, 18, 19, 20, 9, 21, 22, 23, 24, 25, 26, 27, 28, 37, 38, 39, 40, 41, 42, 43, 44, 45, 46, 47, 48, 49, 50, 51, 52, 53, 54, 55, 56] (by decide +kernel) (by decide +kernel)
set_option maxRecDepth 20000 in
theorem gX5_square_X5_makeProduct : GoodIn wsX5_square (wsV RX5 112 RX5 yX5_makeProduct wsX5_makeProduct) := goodIn_app (goodIn_of _ (by decide +kernel)) ggX5_square_X5_makeProduct
set_option maxRecDepth 20000 in
theorem ggX5_square_X5_termOf : GoodIn wsX5_square wsX5_termOf := goodIn_r _ [32, 1, 5, 6, 2, 3, 7, 8, 9, 10, 11, 12, 13, 37, 38, 39, 40, 41, 42, 43, 44, 45, 46, 47, 48, 49, 50, 51, 52, 53, 54, 55, 56] (by decide +kernel) (by decide +kernel)
set_option maxRecDepth 20000 in
theorem gX5_square_X5_termOf : GoodIn wsX5_square (wsV RX5 176 RX5 yX5_termOf wsX5_termOf) := goodIn_app (goodIn_of _ (by decide +kernel)) ggX5_square_X5_termOf
set_option maxRecDepth 20000 in
theorem ggX5_square_X5_isOrder : GoodIn wsX5_square wsX5_isOrder := goodIn_r _ [36, 5, 6, 11, 12, 9, 13, 37, 38, 39, 40, 41, 42, 43, 44, 45, 46, 47, 48, 49, 50, 51, 52, 53, 54, 55, 56] (by decide +kernel) (by decide +kernel)
set_option maxRecDepth 20000 in
theorem gX5_square_X5_isOrder : GoodIn wsX5_square (wsV RX5 83 RX5 yX5_isOrder wsX5_isOrder) := goodIn_app (goodIn_of _ (by decide +kernel)) ggX5_square_X5_isOrder
theorem dX5_square_0 : decode cX5_square 0 = .ok (.iload_n 1, 1) := by decide +kernel
theorem dX5_square_1 : decode cX5_square 1 = .ok (.invokestatic 79, 3) := by decide +kernel
theorem dX5_square_4 : decode cX5_square 4 = .ok (.ifCond .ne 6, 3) := by decide +kernel
theorem dX5_square_7 : decode cX5_square 7 = .ok (.ldc 67, 2) := by decide +kernel
theorem dX5_square_9 : decode cX5_square 9 = .ok (.ireturn, 1) := by decide +kernel
theorem dX5_square_10 : decode cX5_square 10 = .ok (.aload_n 0, 1) := by decide +kernel
theorem dX5_square_11 : decode cX5_square 11 = .ok (.getfield 17, 3) := by decide +kernel
theorem dX5_square_14 : decode cX5_square 14 = .ok (.iload_n 1, 1) := by decide +kernel
theorem dX5_square_15 : decode cX5_square 15 = .ok (.aaload, 1) := by decide +kernel
theorem dX5_square_16 : decode cX5_square 16 = .ok (.astore_n 2, 1) := by decide +kernel
theorem dX5_square_17 : decode cX5_square 17 = .ok (.aload_n 0, 1) := by decide +kernel
theorem dX5_square_18 : decode cX5_square 18 = .ok (.aload_n 2, 1) := by decide +kernel
theorem dX5_square_19 : decode cX5_square 19 = .ok (.aload_n 2, 1) := by decide +kernel
theorem dX5_square_20 : decode cX5_square 20 = .ok (.invokevirtual 112, 3) := by decide +kernel
theorem dX5_square_23 : decode cX5_square 23 = .ok (.aload_n 0, 1) := by decide +kernel
theorem dX5_square_24 : decode cX5_square 24 = .ok (.iload_n 1, 1) := by decide +kernel
theorem dX5_square_25 : decode cX5_square 25 = .ok (.iconst 0, 1) := by decide +kernel
theorem dX5_square_26 : decode cX5_square 26 = .ok (.iconst 0, 1) := by decide +kernel
theorem dX5_square_27 : decode cX5_square 27 = .ok (.invokevirtual 176, 3) := by decide +kernel
theorem dX5_square_30 : decode cX5_square 30 = .ok (.istore_n 3, 1) := by decide +kernel
theorem dX5_square_31 : decode cX5_square 31 = .ok (.aload_n 0, 1) := by decide +kernel
theorem dX5_square_32 : decode cX5_square 32 = .ok (.iload_n 3, 1) := by decide +kernel
theorem dX5_square_33 : decode cX5_square 33 = .ok (.invokevirtual 83, 3) := by decide +kernel
theorem dX5_square_36 : decode cX5_square 36 = .ok (.ifCond .eq 9, 3) := by decide +kernel
theorem dX5_square_39 : decode cX5_square 39 = .ok (.aload_n 2, 1) := by decide +kernel
theorem dX5_square_40 : decode cX5_square 40 = .ok (.iload_n 3, 1) := by decide +kernel
theorem dX5_square_41 : decode cX5_square 41 = .ok (.iaload, 1) := by decide +kernel
theorem dX5_square_42 : decode cX5_square 42 = .ok (.ifCond .ne 6, 3) := by decide +kernel
theorem dX5_square_45 : decode cX5_square 45 = .ok (.ldc 154, 2) := by decide +kernel
theorem dX5_square_47 : decode cX5_square 47 = .ok (.ireturn, 1) := by decide +kernel
theorem dX5_square_48 : decode cX5_square 48 = .ok (.aload_n 0, 1) := by decide +kernel
theorem dX5_square_49 : decode cX5_square 49 = .ok (.getfield 20, 3) := by decide +kernel
theorem dX5_square_52 : decode cX5_square 52 = .ok (.iload_n 3, 1) := by decide +kernel
theorem dX5_square_53 : decode cX5_square 53 = .ok (.laload, 1) := by decide +kernel
theorem dX5_square_54 : decode cX5_square 54 = .ok (.aload_n 2, 1) := by decide +kernel
theorem dX5_square_55 : decode cX5_square 55 = .ok (.iload_n 3, 1) := by decide +kernel
theorem dX5_square_56 : decode cX5_square 56 = .ok (.iaload, 1) := by decide +kernel
theorem dX5_square_57 : decode cX5_square 57 = .ok (.i2l, 1) := by decide +kernel
theorem dX5_square_58 : decode cX5_square 58 = .ok (.ldiv, 1) := by decide +kernel
theorem dX5_square_59 : decode cX5_square 59 = .ok (.lstore 4, 2) := by decide +kernel
theorem dX5_square_61 : decode cX5_square 61 = .ok (.iconst 0, 1) := by decide +kernel
theorem dX5_square_62 : decode cX5_square 62 = .ok (.istore 6, 2) := by decide +kernel
theorem dX5_square_64 : decode cX5_square 64 = .ok (.iload 6, 2) := by decide +kernel
theorem dX5_square_66 : decode cX5_square 66 = .ok (.aload_n 0, 1) := by decide +kernel
theorem dX5_square_67 : decode cX5_square 67 = .ok (.getfield 59, 3) := by decide +kernel
theorem dX5_square_70 : decode cX5_square 70 = .ok (.getfield 76, 3) := by decide +kernel
theorem dX5_square_73 : decode cX5_square 73 = .ok (.if_icmp .ge 31, 3) := by decide +kernel
theorem dX5_square_76 : decode cX5_square 76 = .ok (.aload_n 0, 1) := by decide +kernel
theorem dX5_square_77 : decode cX5_square 77 = .ok (.getfield 20, 3) := by decide +kernel
theorem dX5_square_80 : decode cX5_square 80 = .ok (.iload 6, 2) := by decide +kernel
theorem dX5_square_82 : decode cX5_square 82 = .ok (.laload, 1) := by decide +kernel
theorem dX5_square_83 : decode cX5_square 83 = .ok (.lload 4, 2) := by decide +kernel
theorem dX5_square_85 : decode cX5_square 85 = .ok (.aload_n 2, 1) := by decide +kernel
theorem dX5_square_86 : decode cX5_square 86 = .ok (.iload 6, 2) := by decide +kernel
theorem dX5_square_88 : decode cX5_square 88 = .ok (.iaload, 1) := by decide +kernel
theorem dX5_square_89 : decode cX5_square 89 = .ok (.i2l, 1) := by decide +kernel
theorem dX5_square_90 : decode cX5_square 90 = .ok (.lmul, 1) := by decide +kernel
theorem dX5_square_91 : decode cX5_square 91 = .ok (.lcmp, 1) := by decide +kernel
theorem dX5_square_92 : decode cX5_square 92 = .ok (.ifCond .eq 6, 3) := by decide +kernel
theorem dX5_square_95 : decode cX5_square 95 = .ok (.ldc 154, 2) := by decide +kernel
theorem dX5_square_97 : decode cX5_square 97 = .ok (.ireturn, 1) := by decide +kernel
theorem dX5_square_98 : decode cX5_square 98 = .ok (.iinc 6 1, 3) := by decide +kernel
theorem dX5_square_101 : decode cX5_square 101 = .ok (.goto (-37), 3) := by decide +kernel
theorem dX5_square_104 : decode cX5_square 104 = .ok (.lload 4, 2) := by decide +kernel
theorem dX5_square_106 : decode cX5_square 106 = .ok (.l2i, 1) := by decide +kernel
theorem dX5_square_107 : decode cX5_square 107 = .ok (.ireturn, 1) := by decide +kernel
set_option maxRecDepth 20000 in
theorem ggX5_byOrders_X5_isSet : GoodIn wsX5_byOrders wsX5_isSet := goodIn_r _ [10, 2, 3, 11, 12, 9, 13, 43, 44, 45, 46, 47, 48, 49, 50, 51, 52, 53, 54, 55, 56, 57, 58, 59, 60, 61, 62] (by decide +kernel) (by decide +kernel)
set_option maxRecDepth 20000 in
theorem gX5_byOrders_X5_isSet : GoodIn wsX5_byOrders (wsV RX5 94 RX5 yX5_isSet wsX5_isSet) := goodIn_app (goodIn_of _ (by decide +kernel)) ggX5_byOrders_X5_isSet
set_option maxRecDepth 20000 in
theorem ggX5_byOrders_X5_timesInProduct : GoodIn wsX5_byOrders wsX5_timesInProduct := goodIn_r _ [17, 2, 18, 19, 20, 21, 22, 23, 24, 25, 26, 27, 28, 29, 30, 31, 43, 44, 45, 46, 47, 48, 49, 50, 51, 52, 53, 54, 55, 56, 57, 58, 59, 60, 61, 62] (by decide +kernel) (by decide +kernel)
set_option maxRecDepth 20000 in
theorem gX5_byOrders_X5_timesInProduct : GoodIn wsX5_byOrders (wsV RX5 180 RX5 yX5_timesInProduct wsX5_timesInProduct) := goodIn_app (goodIn_of _ (by decide +kernel)) ggX5_byOrders_X5_timesInProduct
set_option maxRecDepth 20000 in
theorem ggX5_byOrders_X5_wideFactor : GoodIn wsX5_byOrders wsX5_wideFactor := goodIn_r _ [35, 2, 3, 4, 36, 37, 38, 39, 40, 41, 42, 43, 44, 45, 46, 47, 48, 49, 50, 51, 52, 53, 54, 55, 56, 57, 58, 59, 60, 61, 62] (by decide +kernel) (by decide +kernel)
set_option maxRecDepth 20000 in
theorem gX5_byOrders_X5_wideFactor : GoodIn wsX5_byOrders (wsV RX5 173 RX5 yX5_wideFactor wsX5_wideFactor) := goodIn_app (goodIn_of _ (by decide +kernel)) ggX5_byOrders_X5_wideFactor
theorem dX5_byOrders_0 : decode cX5_byOrders 0 = .ok (.aload_n 0, 1) := by decide +kernel
theorem dX5_byOrders_1 : decode cX5_byOrders 1 = .ok (.iload_n 1, 1) := by decide +kernel
theorem dX5_byOrders_2 : decode cX5_byOrders 2 = .ok (.invokevirtual 94, 3) := by decide +kernel
theorem dX5_byOrders_5 : decode cX5_byOrders 5 = .ok (.ifCond .eq 19, 3) := by decide +kernel
theorem dX5_byOrders_8 : decode cX5_byOrders 8 = .ok (.aload_n 0, 1) := by decide +kernel
theorem dX5_byOrders_9 : decode cX5_byOrders 9 = .ok (.iload_n 2, 1) := by decide +kernel
theorem dX5_byOrders_10 : decode cX5_byOrders 10 = .ok (.invokevirtual 94, 3) := by decide +kernel
theorem dX5_byOrders_13 : decode cX5_byOrders 13 = .ok (.ifCond .eq 11, 3) := by decide +kernel
theorem dX5_byOrders_16 : decode cX5_byOrders 16 = .ok (.aload_n 0, 1) := by decide +kernel
theorem dX5_byOrders_17 : decode cX5_byOrders 17 = .ok (.iload_n 3, 1) := by decide +kernel
theorem dX5_byOrders_18 : decode cX5_byOrders 18 = .ok (.invokevirtual 94, 3) := by decide +kernel
theorem dX5_byOrders_21 : decode cX5_byOrders 21 = .ok (.ifCond .ne 6, 3) := by decide +kernel
theorem dX5_byOrders_24 : decode cX5_byOrders 24 = .ok (.ldc 67, 2) := by decide +kernel
theorem dX5_byOrders_26 : decode cX5_byOrders 26 = .ok (.ireturn, 1) := by decide +kernel
theorem dX5_byOrders_27 : decode cX5_byOrders 27 = .ok (.iconst 0, 1) := by decide +kernel
theorem dX5_byOrders_28 : decode cX5_byOrders 28 = .ok (.istore 4, 2) := by decide +kernel
theorem dX5_byOrders_30 : decode cX5_byOrders 30 = .ok (.iload 4, 2) := by decide +kernel
theorem dX5_byOrders_32 : decode cX5_byOrders 32 = .ok (.aload_n 0, 1) := by decide +kernel
theorem dX5_byOrders_33 : decode cX5_byOrders 33 = .ok (.getfield 59, 3) := by decide +kernel
theorem dX5_byOrders_36 : decode cX5_byOrders 36 = .ok (.getfield 170, 3) := by decide +kernel
theorem dX5_byOrders_39 : decode cX5_byOrders 39 = .ok (.if_icmp .ge 33, 3) := by decide +kernel
theorem dX5_byOrders_42 : decode cX5_byOrders 42 = .ok (.aload_n 0, 1) := by decide +kernel
theorem dX5_byOrders_43 : decode cX5_byOrders 43 = .ok (.getfield 24, 3) := by decide +kernel
theorem dX5_byOrders_46 : decode cX5_byOrders 46 = .ok (.iload 4, 2) := by decide +kernel
theorem dX5_byOrders_48 : decode cX5_byOrders 48 = .ok (.aload_n 0, 1) := by decide +kernel
theorem dX5_byOrders_49 : decode cX5_byOrders 49 = .ok (.iload_n 1, 1) := by decide +kernel
theorem dX5_byOrders_50 : decode cX5_byOrders 50 = .ok (.iload_n 2, 1) := by decide +kernel
theorem dX5_byOrders_51 : decode cX5_byOrders 51 = .ok (.aload_n 0, 1) := by decide +kernel
theorem dX5_byOrders_52 : decode cX5_byOrders 52 = .ok (.getfield 59, 3) := by decide +kernel
theorem dX5_byOrders_55 : decode cX5_byOrders 55 = .ok (.getfield 167, 3) := by decide +kernel
theorem dX5_byOrders_58 : decode cX5_byOrders 58 = .ok (.iload 4, 2) := by decide +kernel
theorem dX5_byOrders_60 : decode cX5_byOrders 60 = .ok (.iaload, 1) := by decide +kernel
theorem dX5_byOrders_61 : decode cX5_byOrders 61 = .ok (.invokevirtual 180, 3) := by decide +kernel
theorem dX5_byOrders_64 : decode cX5_byOrders 64 = .ok (.i2l, 1) := by decide +kernel
theorem dX5_byOrders_65 : decode cX5_byOrders 65 = .ok (.lastore, 1) := by decide +kernel
theorem dX5_byOrders_66 : decode cX5_byOrders 66 = .ok (.iinc 4 1, 3) := by decide +kernel
theorem dX5_byOrders_69 : decode cX5_byOrders 69 = .ok (.goto (-39), 3) := by decide +kernel
theorem dX5_byOrders_72 : decode cX5_byOrders 72 = .ok (.aload_n 0, 1) := by decide +kernel
theorem dX5_byOrders_73 : decode cX5_byOrders 73 = .ok (.iload_n 3, 1) := by decide +kernel
theorem dX5_byOrders_74 : decode cX5_byOrders 74 = .ok (.invokevirtual 173, 3) := by decide +kernel
theorem dX5_byOrders_77 : decode cX5_byOrders 77 = .ok (.ireturn, 1) := by decide +kernel
set_option maxRecDepth 20000 in
theorem ggX5_byTables_X5_isSet : GoodIn wsX5_byTables wsX5_isSet := goodIn_r _ [9, 3, 10, 11, 12, 8, 13, 38, 39, 40, 41, 42, 43, 44, 45, 46, 47, 48, 49, 50, 51, 52, 53, 54, 55, 56, 57] (by decide +kernel) (by decide +kernel)
set_option maxRecDepth 20000 in
theorem gX5_byTables_X5_isSet : GoodIn wsX5_byTables (wsV RX5 94 RX5 yX5_isSet wsX5_isSet) := goodIn_app (goodIn_of _ (by decide +kernel)) ggX5_byTables_X5_isSet
set_option maxRecDepth 20000 in
theorem ggX5_byTables_X3_tell : GoodIn wsX5_byTables wsX3_tell := goodIn_r _ [18, 19, 20, 21, 22, 23, 24, 25, 26, 17, 27, 28, 29, 30, 31, 32, 33, 34, 35, 36, 37, 58, 59, 60, 61, 62, 63] (by decide +kernel) (by decide +kernel)
set_option maxRecDepth 20000 in
theorem gX5_byTables_X3_tell : GoodIn wsX5_byTables (wsV RX5 183 RX3 yX3_tell wsX3_tell) := goodIn_app (goodIn_of _ (by decide +kernel)) ggX5_byTables_X3_tell
theorem dX5_byTables_0 : decode cX5_byTables 0 = .ok (.aload_n 0, 1) := by decide +kernel
theorem dX5_byTables_1 : decode cX5_byTables 1 = .ok (.iload_n 1, 1) := by decide +kernel
theorem dX5_byTables_2 : decode cX5_byTables 2 = .ok (.invokevirtual 94, 3) := by decide +kernel
theorem dX5_byTables_5 : decode cX5_byTables 5 = .ok (.ifCond .eq 24, 3) := by decide +kernel
theorem dX5_byTables_8 : decode cX5_byTables 8 = .ok (.aload_n 0, 1) := by decide +kernel
theorem dX5_byTables_9 : decode cX5_byTables 9 = .ok (.iload_n 2, 1) := by decide +kernel
theorem dX5_byTables_10 : decode cX5_byTables 10 = .ok (.invokevirtual 94, 3) := by decide +kernel
theorem dX5_byTables_13 : decode cX5_byTables 13 = .ok (.ifCond .eq 16, 3) := by decide +kernel
theorem dX5_byTables_16 : decode cX5_byTables 16 = .ok (.iload_n 3, 1) := by decide +kernel
theorem dX5_byTables_17 : decode cX5_byTables 17 = .ok (.iconst (-1), 1) := by decide +kernel
theorem dX5_byTables_18 : decode cX5_byTables 18 = .ok (.if_icmp .eq 14, 3) := by decide +kernel
theorem dX5_byTables_21 : decode cX5_byTables 21 = .ok (.aload_n 0, 1) := by decide +kernel
theorem dX5_byTables_22 : decode cX5_byTables 22 = .ok (.iload_n 3, 1) := by decide +kernel
theorem dX5_byTables_23 : decode cX5_byTables 23 = .ok (.invokevirtual 94, 3) := by decide +kernel
theorem dX5_byTables_26 : decode cX5_byTables 26 = .ok (.ifCond .ne 6, 3) := by decide +kernel
theorem dX5_byTables_29 : decode cX5_byTables 29 = .ok (.ldc 67, 2) := by decide +kernel
theorem dX5_byTables_31 : decode cX5_byTables 31 = .ok (.ireturn, 1) := by decide +kernel
theorem dX5_byTables_32 : decode cX5_byTables 32 = .ok (.aload_n 0, 1) := by decide +kernel
theorem dX5_byTables_33 : decode cX5_byTables 33 = .ok (.getfield 51, 3) := by decide +kernel
theorem dX5_byTables_36 : decode cX5_byTables 36 = .ok (.aload_n 0, 1) := by decide +kernel
theorem dX5_byTables_37 : decode cX5_byTables 37 = .ok (.getfield 59, 3) := by decide +kernel
theorem dX5_byTables_40 : decode cX5_byTables 40 = .ok (.getfield 68, 3) := by decide +kernel
theorem dX5_byTables_43 : decode cX5_byTables 43 = .ok (.iload_n 1, 1) := by decide +kernel
theorem dX5_byTables_44 : decode cX5_byTables 44 = .ok (.iload_n 2, 1) := by decide +kernel
theorem dX5_byTables_45 : decode cX5_byTables 45 = .ok (.iload_n 3, 1) := by decide +kernel
theorem dX5_byTables_46 : decode cX5_byTables 46 = .ok (.invokevirtual 183, 3) := by decide +kernel
theorem dX5_byTables_49 : decode cX5_byTables 49 = .ok (.ireturn, 1) := by decide +kernel
theorem dX5_count_0 : decode cX5_count 0 = .ok (.iload_n 1, 1) := by decide +kernel
theorem dX5_count_1 : decode cX5_count 1 = .ok (.tableswitch 63 0 3 #[31, 39, 47, 55], 31) := by decide +kernel
theorem dX5_count_32 : decode cX5_count 32 = .ok (.aload_n 0, 1) := by decide +kernel
theorem dX5_count_33 : decode cX5_count 33 = .ok (.getfield 59, 3) := by decide +kernel
theorem dX5_count_36 : decode cX5_count 36 = .ok (.getfield 68, 3) := by decide +kernel
theorem dX5_count_39 : decode cX5_count 39 = .ok (.ireturn, 1) := by decide +kernel
theorem dX5_count_40 : decode cX5_count 40 = .ok (.aload_n 0, 1) := by decide +kernel
theorem dX5_count_41 : decode cX5_count 41 = .ok (.getfield 59, 3) := by decide +kernel
theorem dX5_count_44 : decode cX5_count 44 = .ok (.getfield 76, 3) := by decide +kernel
theorem dX5_count_47 : decode cX5_count 47 = .ok (.ireturn, 1) := by decide +kernel
theorem dX5_count_48 : decode cX5_count 48 = .ok (.aload_n 0, 1) := by decide +kernel
theorem dX5_count_49 : decode cX5_count 49 = .ok (.getfield 30, 3) := by decide +kernel
theorem dX5_count_52 : decode cX5_count 52 = .ok (.getfield 187, 3) := by decide +kernel
theorem dX5_count_55 : decode cX5_count 55 = .ok (.ireturn, 1) := by decide +kernel
theorem dX5_count_56 : decode cX5_count 56 = .ok (.aload_n 0, 1) := by decide +kernel
theorem dX5_count_57 : decode cX5_count 57 = .ok (.getfield 37, 3) := by decide +kernel
theorem dX5_count_60 : decode cX5_count 60 = .ok (.getfield 188, 3) := by decide +kernel
theorem dX5_count_63 : decode cX5_count 63 = .ok (.ireturn, 1) := by decide +kernel
theorem dX5_count_64 : decode cX5_count 64 = .ok (.ldc 67, 2) := by decide +kernel
theorem dX5_count_66 : decode cX5_count 66 = .ok (.ireturn, 1) := by decide +kernel
set_option maxRecDepth 20000 in
theorem ggX5_undo_X0_takeBack : GoodIn wsX5_undo wsX0_takeBack := goodIn_r _ [10, 11, 12, 13, 14, 15, 16, 17, 18, 89, 90, 91, 92] (by decide +kernel) (by decide +kernel)
set_option maxRecDepth 20000 in
theorem gX5_undo_X0_takeBack : GoodIn wsX5_undo (wsV RX5 192 RX0 yX0_takeBack wsX0_takeBack) := goodIn_app (goodIn_of _ (by decide +kernel)) ggX5_undo_X0_takeBack
set_option maxRecDepth 20000 in
theorem ggX5_undo_X5_ordersWith : GoodIn wsX5_undo wsX5_ordersWith := goodIn_r _ [23, 24, 25, 26, 27, 28, 29, 30, 31, 32, 33, 34, 35, 36, 37, 38, 39, 40, 41, 42, 43, 44, 45, 46, 47, 48, 49, 50, 51, 52, 53, 54, 55, 56, 57, 58, 59, 60, 61, 62, 63, 64, 65, 66, 67, 68, 69, 70, 71, 72, 73, 74, 75, 76, 77, 78, 79, 80, 81, 82, 83, 84, 85, 86, 87, 88, 93, 94, 95, 96, 97, 98, 99, 100, 101, 102, 103] (by decide +kernel) (by decide +kernel)
set_option maxRecDepth 20000 in
theorem gX5_undo_X5_ordersWith : GoodIn wsX5_undo (wsV RX5 55 RX5 yX5_ordersWith wsX5_ordersWith) := goodIn_app (goodIn_of _ (by decide +kernel)) ggX5_undo_X5_ordersWith
theorem dX5_undo_0 : decode cX5_undo 0 = .ok (.aload_n 0, 1) := by decide +kernel
theorem dX5_undo_1 : decode cX5_undo 1 = .ok (.getfield 30, 3) := by decide +kernel
theorem dX5_undo_4 : decode cX5_undo 4 = .ok (.getfield 187, 3) := by decide +kernel
theorem dX5_undo_7 : decode cX5_undo 7 = .ok (.ifCond .ne 6, 3) := by decide +kernel
theorem dX5_undo_10 : decode cX5_undo 10 = .ok (.ldc 191, 2) := by decide +kernel
theorem dX5_undo_12 : decode cX5_undo 12 = .ok (.ireturn, 1) := by decide +kernel
theorem dX5_undo_13 : decode cX5_undo 13 = .ok (.aload_n 0, 1) := by decide +kernel
theorem dX5_undo_14 : decode cX5_undo 14 = .ok (.aload_n 0, 1) := by decide +kernel
theorem dX5_undo_15 : decode cX5_undo 15 = .ok (.aload_n 0, 1) := by decide +kernel
theorem dX5_undo_16 : decode cX5_undo 16 = .ok (.getfield 30, 3) := by decide +kernel
theorem dX5_undo_19 : decode cX5_undo 19 = .ok (.aload_n 0, 1) := by decide +kernel
theorem dX5_undo_20 : decode cX5_undo 20 = .ok (.getfield 17, 3) := by decide +kernel
theorem dX5_undo_23 : decode cX5_undo 23 = .ok (.invokevirtual 192, 3) := by decide +kernel
theorem dX5_undo_26 : decode cX5_undo 26 = .ok (.invokevirtual 55, 3) := by decide +kernel
theorem dX5_undo_29 : decode cX5_undo 29 = .ok (.putfield 59, 3) := by decide +kernel
theorem dX5_undo_32 : decode cX5_undo 32 = .ok (.aload_n 0, 1) := by decide +kernel
theorem dX5_undo_33 : decode cX5_undo 33 = .ok (.getfield 30, 3) := by decide +kernel
theorem dX5_undo_36 : decode cX5_undo 36 = .ok (.getfield 187, 3) := by decide +kernel
theorem dX5_undo_39 : decode cX5_undo 39 = .ok (.ireturn, 1) := by decide +kernel
set_option maxRecDepth 20000 in
theorem ggX5_type_X5_isWithin : GoodIn wsX5_type wsX5_isWithin := goodIn_r _ [8] (by decide +kernel) (by decide +kernel)
set_option maxRecDepth 20000 in
theorem gX5_type_X5_isWithin : GoodIn wsX5_type (va_wsS RX5 63 yX5_isWithin wsX5_isWithin) := goodIn_app (goodIn_of _ (by decide +kernel)) ggX5_type_X5_isWithin
set_option maxRecDepth 20000 in
theorem ggX5_type_X2_isFull : GoodIn wsX5_type wsX2_isFull := goodIn_r _ [13, 14, 29, 30] (by decide +kernel) (by decide +kernel)
set_option maxRecDepth 20000 in
theorem gX5_type_X2_isFull : GoodIn wsX5_type (wsV RX5 196 RX2 yX2_isFull wsX2_isFull) := goodIn_app (goodIn_of _ (by decide +kernel)) ggX5_type_X2_isFull
set_option maxRecDepth 20000 in
theorem ggX5_type_X2_append : GoodIn wsX5_type wsX2_append := goodIn_r _ [18, 19, 14, 29, 30] (by decide +kernel) (by decide +kernel)
set_option maxRecDepth 20000 in
theorem gX5_type_X2_append : GoodIn wsX5_type (wsV RX5 201 RX2 yX2_append wsX2_append) := goodIn_app (goodIn_of _ (by decide +kernel)) ggX5_type_X2_append
theorem dX5_type_0 : decode cX5_type 0 = .ok (.iload_n 1, 1) := by decide +kernel
theorem dX5_type_1 : decode cX5_type 1 = .ok (.bipush 32, 2) := by decide +kernel
theorem dX5_type_3 : decode cX5_type 3 = .ok (.bipush 126, 2) := by decide +kernel
theorem dX5_type_5 : decode cX5_type 5 = .ok (.invokestatic 63, 3) := by decide +kernel
theorem dX5_type_8 : decode cX5_type 8 = .ok (.ifCond .ne 6, 3) := by decide +kernel
theorem dX5_type_11 : decode cX5_type 11 = .ok (.ldc 67, 2) := by decide +kernel
theorem dX5_type_13 : decode cX5_type 13 = .ok (.ireturn, 1) := by decide +kernel
theorem dX5_type_14 : decode cX5_type 14 = .ok (.aload_n 0, 1) := by decide +kernel
theorem dX5_type_15 : decode cX5_type 15 = .ok (.getfield 37, 3) := by decide +kernel
theorem dX5_type_18 : decode cX5_type 18 = .ok (.invokevirtual 196, 3) := by decide +kernel
theorem dX5_type_21 : decode cX5_type 21 = .ok (.ifCond .eq 6, 3) := by decide +kernel
theorem dX5_type_24 : decode cX5_type 24 = .ok (.ldc 200, 2) := by decide +kernel
theorem dX5_type_26 : decode cX5_type 26 = .ok (.ireturn, 1) := by decide +kernel
theorem dX5_type_27 : decode cX5_type 27 = .ok (.aload_n 0, 1) := by decide +kernel
theorem dX5_type_28 : decode cX5_type 28 = .ok (.getfield 37, 3) := by decide +kernel
theorem dX5_type_31 : decode cX5_type 31 = .ok (.iload_n 1, 1) := by decide +kernel
theorem dX5_type_32 : decode cX5_type 32 = .ok (.i2c, 1) := by decide +kernel
theorem dX5_type_33 : decode cX5_type 33 = .ok (.invokevirtual 201, 3) := by decide +kernel
theorem dX5_type_36 : decode cX5_type 36 = .ok (.aload_n 0, 1) := by decide +kernel
theorem dX5_type_37 : decode cX5_type 37 = .ok (.getfield 37, 3) := by decide +kernel
theorem dX5_type_40 : decode cX5_type 40 = .ok (.getfield 188, 3) := by decide +kernel
theorem dX5_type_43 : decode cX5_type 43 = .ok (.ireturn, 1) := by decide +kernel
theorem dX5_clearText_0 : decode cX5_clearText 0 = .ok (.aload_n 0, 1) := by decide +kernel
theorem dX5_clearText_1 : decode cX5_clearText 1 = .ok (.getfield 37, 3) := by decide +kernel
theorem dX5_clearText_4 : decode cX5_clearText 4 = .ok (.getfield 188, 3) := by decide +kernel
theorem dX5_clearText_7 : decode cX5_clearText 7 = .ok (.istore_n 1, 1) := by decide +kernel
theorem dX5_clearText_8 : decode cX5_clearText 8 = .ok (.aload_n 0, 1) := by decide +kernel
theorem dX5_clearText_9 : decode cX5_clearText 9 = .ok (.getfield 37, 3) := by decide +kernel
theorem dX5_clearText_12 : decode cX5_clearText 12 = .ok (.iconst 0, 1) := by decide +kernel
theorem dX5_clearText_13 : decode cX5_clearText 13 = .ok (.putfield 188, 3) := by decide +kernel
theorem dX5_clearText_16 : decode cX5_clearText 16 = .ok (.iload_n 1, 1) := by decide +kernel
theorem dX5_clearText_17 : decode cX5_clearText 17 = .ok (.ireturn, 1) := by decide +kernel
set_option maxRecDepth 20000 in
theorem ggX5_fault_X5_makeZeros : GoodIn wsX5_fault wsX5_makeZeros := goodIn_r _ [10, 3, 11, 4, 65, 66, 67, 68, 69, 70, 71, 72, 73, 74, 75, 76, 77, 78, 79, 80, 81, 82, 83, 84] (by decide +kernel) (by decide +kernel)
set_option maxRecDepth 20000 in
theorem gX5_fault_X5_makeZeros : GoodIn wsX5_fault (wsV RX5 109 RX5 yX5_makeZeros wsX5_makeZeros) := goodIn_app (goodIn_of _ (by decide +kernel)) ggX5_fault_X5_makeZeros
set_option maxRecDepth 20000 in
theorem ggX5_fault_X4_addTerms : GoodIn wsX5_fault wsX4_addTerms := goodIn_r _ [16, 17, 18, 19, 20, 21, 22, 23, 24, 25, 26, 27, 15, 28, 29, 30, 31, 32, 33, 34, 35, 36, 37, 38, 39, 40, 41, 42, 43, 44, 45, 46, 47, 48, 49, 50, 51, 52, 53, 54, 55, 56, 57, 58, 59, 60, 61, 62, 63, 64, 74, 75, 76, 77, 78, 79, 80, 81, 82, 83, 84, 85, 86, 87, 88, 89, 90, 91, 92, 93, 94, 95] (by decide +kernel) (by decide +kernel)
set_option maxRecDepth 20000 in
theorem gX5_fault_X4_addTerms : GoodIn wsX5_fault (wsV RX5 205 RX4 yX4_addTerms wsX4_addTerms) := goodIn_app (goodIn_of _ (by decide +kernel)) ggX5_fault_X4_addTerms
theorem dX5_fault_0 : decode cX5_fault 0 = .ok (.aload_n 0, 1) := by decide +kernel
theorem dX5_fault_1 : decode cX5_fault 1 = .ok (.invokevirtual 109, 3) := by decide +kernel
theorem dX5_fault_4 : decode cX5_fault 4 = .ok (.aload_n 0, 1) := by decide +kernel
theorem dX5_fault_5 : decode cX5_fault 5 = .ok (.getfield 44, 3) := by decide +kernel
theorem dX5_fault_8 : decode cX5_fault 8 = .ok (.aload_n 0, 1) := by decide +kernel
theorem dX5_fault_9 : decode cX5_fault 9 = .ok (.getfield 37, 3) := by decide +kernel
theorem dX5_fault_12 : decode cX5_fault 12 = .ok (.aload_n 0, 1) := by decide +kernel
theorem dX5_fault_13 : decode cX5_fault 13 = .ok (.getfield 59, 3) := by decide +kernel
theorem dX5_fault_16 : decode cX5_fault 16 = .ok (.aload_n 0, 1) := by decide +kernel
theorem dX5_fault_17 : decode cX5_fault 17 = .ok (.getfield 20, 3) := by decide +kernel
theorem dX5_fault_20 : decode cX5_fault 20 = .ok (.invokevirtual 205, 3) := by decide +kernel
theorem dX5_fault_23 : decode cX5_fault 23 = .ok (.istore_n 1, 1) := by decide +kernel
theorem dX5_fault_24 : decode cX5_fault 24 = .ok (.iload_n 1, 1) := by decide +kernel
theorem dX5_fault_25 : decode cX5_fault 25 = .ok (.iconst (-1), 1) := by decide +kernel
theorem dX5_fault_26 : decode cX5_fault 26 = .ok (.if_icmp .ne 8, 3) := by decide +kernel
theorem dX5_fault_29 : decode cX5_fault 29 = .ok (.ldc 154, 2) := by decide +kernel
theorem dX5_fault_31 : decode cX5_fault 31 = .ok (.goto 4, 3) := by decide +kernel
theorem dX5_fault_34 : decode cX5_fault 34 = .ok (.iload_n 1, 1) := by decide +kernel
theorem dX5_fault_35 : decode cX5_fault 35 = .ok (.ireturn, 1) := by decide +kernel
set_option maxRecDepth 20000 in
theorem ggX5_read_X5_isSum : GoodIn wsX5_read wsX5_isSum := goodIn_r _ [11, 12, 13, 10, 14] (by decide +kernel) (by decide +kernel)
set_option maxRecDepth 20000 in
theorem gX5_read_X5_isSum : GoodIn wsX5_read (va_wsS RX5 79 yX5_isSum wsX5_isSum) := goodIn_app (goodIn_of _ (by decide +kernel)) ggX5_read_X5_isSum
set_option maxRecDepth 20000 in
theorem ggX5_read_X5_makeCopyOf : GoodIn wsX5_read wsX5_makeCopyOf := goodIn_r _ [18, 4, 19, 5, 20, 100, 101, 102, 103, 104, 105, 106, 107, 108, 118, 119, 120, 121, 122, 123, 124, 125, 126, 127, 128] (by decide +kernel) (by decide +kernel)
set_option maxRecDepth 20000 in
theorem gX5_read_X5_makeCopyOf : GoodIn wsX5_read (wsV RX5 86 RX5 yX5_makeCopyOf wsX5_makeCopyOf) := goodIn_app (goodIn_of _ (by decide +kernel)) ggX5_read_X5_makeCopyOf
set_option maxRecDepth 20000 in
theorem ggX5_read_X4_addTerms : GoodIn wsX5_read wsX4_addTerms := goodIn_r _ [25, 26, 27, 28, 29, 30, 31, 32, 33, 34, 35, 36, 24, 37, 38, 39, 40, 41, 42, 43, 44, 45, 46, 47, 48, 49, 50, 51, 52, 53, 54, 55, 56, 57, 58, 59, 60, 61, 62, 63, 64, 65, 66, 67, 68, 69, 70, 71, 72, 73, 118, 119, 120, 121, 122, 123, 124, 125, 126, 127, 128, 109, 110, 111, 112, 113, 114, 115, 116, 117, 129, 130] (by decide +kernel) (by decide +kernel)
set_option maxRecDepth 20000 in
theorem gX5_read_X4_addTerms : GoodIn wsX5_read (wsV RX5 205 RX4 yX4_addTerms wsX4_addTerms) := goodIn_app (goodIn_of _ (by decide +kernel)) ggX5_read_X4_addTerms
set_option maxRecDepth 20000 in
theorem ggX5_read_X5_settle : GoodIn wsX5_read wsX5_settle := goodIn_r _ [77, 4, 19, 5, 78, 79, 80, 81, 82, 20, 83, 84, 85, 86, 87, 88, 89, 90, 91, 92, 93, 94, 95, 96, 97, 98, 99, 100, 101, 102, 103, 104, 105, 106, 107, 108, 118, 119, 120, 121, 122, 123, 124, 125, 126, 127, 128, 131, 132, 133, 134] (by decide +kernel) (by decide +kernel)
set_option maxRecDepth 20000 in
theorem gX5_read_X5_settle : GoodIn wsX5_read (wsV RX5 90 RX5 yX5_settle wsX5_settle) := goodIn_app (goodIn_of _ (by decide +kernel)) ggX5_read_X5_settle
theorem dX5_read_0 : decode cX5_read 0 = .ok (.iload_n 1, 1) := by decide +kernel
theorem dX5_read_1 : decode cX5_read 1 = .ok (.invokestatic 79, 3) := by decide +kernel
theorem dX5_read_4 : decode cX5_read 4 = .ok (.ifCond .ne 6, 3) := by decide +kernel
theorem dX5_read_7 : decode cX5_read 7 = .ok (.ldc 67, 2) := by decide +kernel
theorem dX5_read_9 : decode cX5_read 9 = .ok (.ireturn, 1) := by decide +kernel
theorem dX5_read_10 : decode cX5_read 10 = .ok (.aload_n 0, 1) := by decide +kernel
theorem dX5_read_11 : decode cX5_read 11 = .ok (.iload_n 1, 1) := by decide +kernel
theorem dX5_read_12 : decode cX5_read 12 = .ok (.invokevirtual 86, 3) := by decide +kernel
theorem dX5_read_15 : decode cX5_read 15 = .ok (.aload_n 0, 1) := by decide +kernel
theorem dX5_read_16 : decode cX5_read 16 = .ok (.getfield 44, 3) := by decide +kernel
theorem dX5_read_19 : decode cX5_read 19 = .ok (.aload_n 0, 1) := by decide +kernel
theorem dX5_read_20 : decode cX5_read 20 = .ok (.getfield 37, 3) := by decide +kernel
theorem dX5_read_23 : decode cX5_read 23 = .ok (.aload_n 0, 1) := by decide +kernel
theorem dX5_read_24 : decode cX5_read 24 = .ok (.getfield 59, 3) := by decide +kernel
theorem dX5_read_27 : decode cX5_read 27 = .ok (.aload_n 0, 1) := by decide +kernel
theorem dX5_read_28 : decode cX5_read 28 = .ok (.getfield 20, 3) := by decide +kernel
theorem dX5_read_31 : decode cX5_read 31 = .ok (.invokevirtual 205, 3) := by decide +kernel
theorem dX5_read_34 : decode cX5_read 34 = .ok (.iconst (-1), 1) := by decide +kernel
theorem dX5_read_35 : decode cX5_read 35 = .ok (.if_icmp .eq 6, 3) := by decide +kernel
theorem dX5_read_38 : decode cX5_read 38 = .ok (.ldc 191, 2) := by decide +kernel
theorem dX5_read_40 : decode cX5_read 40 = .ok (.ireturn, 1) := by decide +kernel
theorem dX5_read_41 : decode cX5_read 41 = .ok (.aload_n 0, 1) := by decide +kernel
theorem dX5_read_42 : decode cX5_read 42 = .ok (.iload_n 1, 1) := by decide +kernel
theorem dX5_read_43 : decode cX5_read 43 = .ok (.aload_n 0, 1) := by decide +kernel
theorem dX5_read_44 : decode cX5_read 44 = .ok (.getfield 44, 3) := by decide +kernel
theorem dX5_read_47 : decode cX5_read 47 = .ok (.getfield 209, 3) := by decide +kernel
theorem dX5_read_50 : decode cX5_read 50 = .ok (.invokevirtual 90, 3) := by decide +kernel
theorem dX5_read_53 : decode cX5_read 53 = .ok (.ireturn, 1) := by decide +kernel
theorem dX5_isWithin_0 : decode cX5_isWithin 0 = .ok (.iload_n 0, 1) := by decide +kernel
theorem dX5_isWithin_1 : decode cX5_isWithin 1 = .ok (.iload_n 1, 1) := by decide +kernel
theorem dX5_isWithin_2 : decode cX5_isWithin 2 = .ok (.if_icmp .lt 12, 3) := by decide +kernel
theorem dX5_isWithin_5 : decode cX5_isWithin 5 = .ok (.iload_n 0, 1) := by decide +kernel
theorem dX5_isWithin_6 : decode cX5_isWithin 6 = .ok (.iload_n 2, 1) := by decide +kernel
theorem dX5_isWithin_7 : decode cX5_isWithin 7 = .ok (.if_icmp .gt 7, 3) := by decide +kernel
theorem dX5_isWithin_10 : decode cX5_isWithin 10 = .ok (.iconst 1, 1) := by decide +kernel
theorem dX5_isWithin_11 : decode cX5_isWithin 11 = .ok (.goto 4, 3) := by decide +kernel
theorem dX5_isWithin_14 : decode cX5_isWithin 14 = .ok (.iconst 0, 1) := by decide +kernel
theorem dX5_isWithin_15 : decode cX5_isWithin 15 = .ok (.ireturn, 1) := by decide +kernel
set_option maxRecDepth 20000 in
theorem ggX5_isSum_X5_isWithin : GoodIn wsX5_isSum wsX5_isWithin := goodIn_r _ [4] (by decide +kernel) (by decide +kernel)
set_option maxRecDepth 20000 in
theorem gX5_isSum_X5_isWithin : GoodIn wsX5_isSum (va_wsS RX5 63 yX5_isWithin wsX5_isWithin) := goodIn_app (goodIn_of _ (by decide +kernel)) ggX5_isSum_X5_isWithin
theorem dX5_isSum_0 : decode cX5_isSum 0 = .ok (.iload_n 0, 1) := by decide +kernel
theorem dX5_isSum_1 : decode cX5_isSum 1 = .ok (.iconst 0, 1) := by decide +kernel
theorem dX5_isSum_2 : decode cX5_isSum 2 = .ok (.iconst 2, 1) := by decide +kernel
theorem dX5_isSum_3 : decode cX5_isSum 3 = .ok (.invokestatic 63, 3) := by decide +kernel
theorem dX5_isSum_6 : decode cX5_isSum 6 = .ok (.ireturn, 1) := by decide +kernel
set_option maxRecDepth 20000 in
theorem ggX5_isOrder_X5_isWithin : GoodIn wsX5_isOrder wsX5_isWithin := goodIn_r _ [6] (by decide +kernel) (by decide +kernel)
set_option maxRecDepth 20000 in
theorem gX5_isOrder_X5_isWithin : GoodIn wsX5_isOrder (va_wsS RX5 63 yX5_isWithin wsX5_isWithin) := goodIn_app (goodIn_of _ (by decide +kernel)) ggX5_isOrder_X5_isWithin
theorem dX5_isOrder_0 : decode cX5_isOrder 0 = .ok (.iload_n 1, 1) := by decide +kernel
theorem dX5_isOrder_1 : decode cX5_isOrder 1 = .ok (.iconst 0, 1) := by decide +kernel
theorem dX5_isOrder_2 : decode cX5_isOrder 2 = .ok (.aload_n 0, 1) := by decide +kernel
theorem dX5_isOrder_3 : decode cX5_isOrder 3 = .ok (.getfield 59, 3) := by decide +kernel
theorem dX5_isOrder_6 : decode cX5_isOrder 6 = .ok (.getfield 76, 3) := by decide +kernel
theorem dX5_isOrder_9 : decode cX5_isOrder 9 = .ok (.iconst 1, 1) := by decide +kernel
theorem dX5_isOrder_10 : decode cX5_isOrder 10 = .ok (.isub, 1) := by decide +kernel
theorem dX5_isOrder_11 : decode cX5_isOrder 11 = .ok (.invokestatic 63, 3) := by decide +kernel
theorem dX5_isOrder_14 : decode cX5_isOrder 14 = .ok (.ireturn, 1) := by decide +kernel
set_option maxRecDepth 20000 in
theorem ggX5_isSet_X5_isWithin : GoodIn wsX5_isSet wsX5_isWithin := goodIn_r _ [6] (by decide +kernel) (by decide +kernel)
set_option maxRecDepth 20000 in
theorem gX5_isSet_X5_isWithin : GoodIn wsX5_isSet (va_wsS RX5 63 yX5_isWithin wsX5_isWithin) := goodIn_app (goodIn_of _ (by decide +kernel)) ggX5_isSet_X5_isWithin
theorem dX5_isSet_0 : decode cX5_isSet 0 = .ok (.iload_n 1, 1) := by decide +kernel
theorem dX5_isSet_1 : decode cX5_isSet 1 = .ok (.iconst 0, 1) := by decide +kernel
theorem dX5_isSet_2 : decode cX5_isSet 2 = .ok (.aload_n 0, 1) := by decide +kernel
theorem dX5_isSet_3 : decode cX5_isSet 3 = .ok (.getfield 59, 3) := by decide +kernel
theorem dX5_isSet_6 : decode cX5_isSet 6 = .ok (.getfield 170, 3) := by decide +kernel
theorem dX5_isSet_9 : decode cX5_isSet 9 = .ok (.iconst 1, 1) := by decide +kernel
theorem dX5_isSet_10 : decode cX5_isSet 10 = .ok (.isub, 1) := by decide +kernel
theorem dX5_isSet_11 : decode cX5_isSet 11 = .ok (.invokestatic 63, 3) := by decide +kernel
theorem dX5_isSet_14 : decode cX5_isSet 14 = .ok (.ireturn, 1) := by decide +kernel
set_option maxRecDepth 20000 in
theorem ggX5_ordersWith_X1_init : GoodIn wsX5_ordersWith wsX1_init := goodIn_r _ [7, 8, 9, 10, 11, 12, 13, 14, 15, 16, 17, 18, 19, 20, 21, 22, 23, 24, 25, 4, 26, 27, 28, 29, 30, 31, 32, 33, 34, 35, 36, 37, 38, 39, 40, 41, 42, 43, 44, 45, 46, 47, 48, 49, 50, 51, 52, 53, 54, 55, 56, 66, 67, 68, 69, 70, 71, 72, 73, 74, 75, 76] (by decide +kernel) (by decide +kernel)
set_option maxRecDepth 20000 in
theorem gX5_ordersWith_X1_init : GoodIn wsX5_ordersWith (wsX1_init) := ggX5_ordersWith_X1_init
theorem dX5_ordersWith_0 : decode cX5_ordersWith 0 = .ok (.aload_n 0, 1) := by decide +kernel
theorem dX5_ordersWith_1 : decode cX5_ordersWith 1 = .ok (.getfield 11, 3) := by decide +kernel
theorem dX5_ordersWith_4 : decode cX5_ordersWith 4 = .ok (.iload_n 1, 1) := by decide +kernel
theorem dX5_ordersWith_5 : decode cX5_ordersWith 5 = .ok (.aaload, 1) := by decide +kernel
theorem dX5_ordersWith_6 : decode cX5_ordersWith 6 = .ok (.astore_n 2, 1) := by decide +kernel
theorem dX5_ordersWith_7 : decode cX5_ordersWith 7 = .ok (.aload_n 2, 1) := by decide +kernel
theorem dX5_ordersWith_8 : decode cX5_ordersWith 8 = .ok (.ifnonnull 19, 3) := by decide +kernel
theorem dX5_ordersWith_11 : decode cX5_ordersWith 11 = .ok (.new 9, 3) := by decide +kernel
theorem dX5_ordersWith_14 : decode cX5_ordersWith 14 = .ok (.dup, 1) := by decide +kernel
theorem dX5_ordersWith_15 : decode cX5_ordersWith 15 = .ok (.iload_n 1, 1) := by decide +kernel
theorem dX5_ordersWith_16 : decode cX5_ordersWith 16 = .ok (.invokespecial 212, 3) := by decide +kernel
theorem dX5_ordersWith_19 : decode cX5_ordersWith 19 = .ok (.astore_n 2, 1) := by decide +kernel
theorem dX5_ordersWith_20 : decode cX5_ordersWith 20 = .ok (.aload_n 0, 1) := by decide +kernel
theorem dX5_ordersWith_21 : decode cX5_ordersWith 21 = .ok (.getfield 11, 3) := by decide +kernel
theorem dX5_ordersWith_24 : decode cX5_ordersWith 24 = .ok (.iload_n 1, 1) := by decide +kernel
theorem dX5_ordersWith_25 : decode cX5_ordersWith 25 = .ok (.aload_n 2, 1) := by decide +kernel
theorem dX5_ordersWith_26 : decode cX5_ordersWith 26 = .ok (.aastore, 1) := by decide +kernel
theorem dX5_ordersWith_27 : decode cX5_ordersWith 27 = .ok (.aload_n 2, 1) := by decide +kernel
theorem dX5_ordersWith_28 : decode cX5_ordersWith 28 = .ok (.areturn, 1) := by decide +kernel
theorem dX5_makeZeros_0 : decode cX5_makeZeros 0 = .ok (.iconst 0, 1) := by decide +kernel
theorem dX5_makeZeros_1 : decode cX5_makeZeros 1 = .ok (.istore_n 1, 1) := by decide +kernel
theorem dX5_makeZeros_2 : decode cX5_makeZeros 2 = .ok (.iload_n 1, 1) := by decide +kernel
theorem dX5_makeZeros_3 : decode cX5_makeZeros 3 = .ok (.aload_n 0, 1) := by decide +kernel
theorem dX5_makeZeros_4 : decode cX5_makeZeros 4 = .ok (.getfield 59, 3) := by decide +kernel
theorem dX5_makeZeros_7 : decode cX5_makeZeros 7 = .ok (.getfield 76, 3) := by decide +kernel
theorem dX5_makeZeros_10 : decode cX5_makeZeros 10 = .ok (.if_icmp .ge 16, 3) := by decide +kernel
theorem dX5_makeZeros_13 : decode cX5_makeZeros 13 = .ok (.aload_n 0, 1) := by decide +kernel
theorem dX5_makeZeros_14 : decode cX5_makeZeros 14 = .ok (.getfield 20, 3) := by decide +kernel
theorem dX5_makeZeros_17 : decode cX5_makeZeros 17 = .ok (.iload_n 1, 1) := by decide +kernel
theorem dX5_makeZeros_18 : decode cX5_makeZeros 18 = .ok (.lconst 0, 1) := by decide +kernel
theorem dX5_makeZeros_19 : decode cX5_makeZeros 19 = .ok (.lastore, 1) := by decide +kernel
theorem dX5_makeZeros_20 : decode cX5_makeZeros 20 = .ok (.iinc 1 1, 3) := by decide +kernel
theorem dX5_makeZeros_23 : decode cX5_makeZeros 23 = .ok (.goto (-21), 3) := by decide +kernel
theorem dX5_makeZeros_26 : decode cX5_makeZeros 26 = .ok (.return_, 1) := by decide +kernel
theorem dX5_makeCopyOf_0 : decode cX5_makeCopyOf 0 = .ok (.iconst 0, 1) := by decide +kernel
theorem dX5_makeCopyOf_1 : decode cX5_makeCopyOf 1 = .ok (.istore_n 2, 1) := by decide +kernel
theorem dX5_makeCopyOf_2 : decode cX5_makeCopyOf 2 = .ok (.iload_n 2, 1) := by decide +kernel
theorem dX5_makeCopyOf_3 : decode cX5_makeCopyOf 3 = .ok (.aload_n 0, 1) := by decide +kernel
theorem dX5_makeCopyOf_4 : decode cX5_makeCopyOf 4 = .ok (.getfield 59, 3) := by decide +kernel
theorem dX5_makeCopyOf_7 : decode cX5_makeCopyOf 7 = .ok (.getfield 76, 3) := by decide +kernel
theorem dX5_makeCopyOf_10 : decode cX5_makeCopyOf 10 = .ok (.if_icmp .ge 24, 3) := by decide +kernel
theorem dX5_makeCopyOf_13 : decode cX5_makeCopyOf 13 = .ok (.aload_n 0, 1) := by decide +kernel
theorem dX5_makeCopyOf_14 : decode cX5_makeCopyOf 14 = .ok (.getfield 20, 3) := by decide +kernel
theorem dX5_makeCopyOf_17 : decode cX5_makeCopyOf 17 = .ok (.iload_n 2, 1) := by decide +kernel
theorem dX5_makeCopyOf_18 : decode cX5_makeCopyOf 18 = .ok (.aload_n 0, 1) := by decide +kernel
theorem dX5_makeCopyOf_19 : decode cX5_makeCopyOf 19 = .ok (.getfield 17, 3) := by decide +kernel
theorem dX5_makeCopyOf_22 : decode cX5_makeCopyOf 22 = .ok (.iload_n 1, 1) := by decide +kernel
theorem dX5_makeCopyOf_23 : decode cX5_makeCopyOf 23 = .ok (.aaload, 1) := by decide +kernel
theorem dX5_makeCopyOf_24 : decode cX5_makeCopyOf 24 = .ok (.iload_n 2, 1) := by decide +kernel
theorem dX5_makeCopyOf_25 : decode cX5_makeCopyOf 25 = .ok (.iaload, 1) := by decide +kernel
theorem dX5_makeCopyOf_26 : decode cX5_makeCopyOf 26 = .ok (.i2l, 1) := by decide +kernel
theorem dX5_makeCopyOf_27 : decode cX5_makeCopyOf 27 = .ok (.lastore, 1) := by decide +kernel
theorem dX5_makeCopyOf_28 : decode cX5_makeCopyOf 28 = .ok (.iinc 2 1, 3) := by decide +kernel
theorem dX5_makeCopyOf_31 : decode cX5_makeCopyOf 31 = .ok (.goto (-29), 3) := by decide +kernel
theorem dX5_makeCopyOf_34 : decode cX5_makeCopyOf 34 = .ok (.return_, 1) := by decide +kernel
set_option maxRecDepth 20000 in
theorem ggX5_makeProduct_X5_makeZeros : GoodIn wsX5_makeProduct wsX5_makeZeros := goodIn_r _ [8, 1, 2, 3, 16, 17, 18, 19, 20, 21, 22, 23, 24, 25, 26, 27, 28, 29, 30, 31, 32, 33, 34, 35] (by decide +kernel) (by decide +kernel)
set_option maxRecDepth 20000 in
theorem gX5_makeProduct_X5_makeZeros : GoodIn wsX5_makeProduct (wsV RX5 109 RX5 yX5_makeZeros wsX5_makeZeros) := goodIn_app (goodIn_of _ (by decide +kernel)) ggX5_makeProduct_X5_makeZeros
set_option maxRecDepth 20000 in
theorem ggX5_makeProduct_X1_times : GoodIn wsX5_makeProduct wsX1_times := goodIn_r _ [13, 14, 15, 25, 26, 27, 28, 29, 30, 31, 32, 33, 34, 35] (by decide +kernel) (by decide +kernel)
set_option maxRecDepth 20000 in
theorem gX5_makeProduct_X1_times : GoodIn wsX5_makeProduct (wsV RX5 151 RX1 yX1_times wsX1_times) := goodIn_app (goodIn_of _ (by decide +kernel)) ggX5_makeProduct_X1_times
theorem dX5_makeProduct_0 : decode cX5_makeProduct 0 = .ok (.aload_n 0, 1) := by decide +kernel
theorem dX5_makeProduct_1 : decode cX5_makeProduct 1 = .ok (.invokevirtual 109, 3) := by decide +kernel
theorem dX5_makeProduct_4 : decode cX5_makeProduct 4 = .ok (.iconst 0, 1) := by decide +kernel
theorem dX5_makeProduct_5 : decode cX5_makeProduct 5 = .ok (.istore_n 3, 1) := by decide +kernel
theorem dX5_makeProduct_6 : decode cX5_makeProduct 6 = .ok (.iload_n 3, 1) := by decide +kernel
theorem dX5_makeProduct_7 : decode cX5_makeProduct 7 = .ok (.aload_n 0, 1) := by decide +kernel
theorem dX5_makeProduct_8 : decode cX5_makeProduct 8 = .ok (.getfield 59, 3) := by decide +kernel
theorem dX5_makeProduct_11 : decode cX5_makeProduct 11 = .ok (.getfield 76, 3) := by decide +kernel
theorem dX5_makeProduct_14 : decode cX5_makeProduct 14 = .ok (.if_icmp .ge 64, 3) := by decide +kernel
theorem dX5_makeProduct_17 : decode cX5_makeProduct 17 = .ok (.aload_n 1, 1) := by decide +kernel
theorem dX5_makeProduct_18 : decode cX5_makeProduct 18 = .ok (.iload_n 3, 1) := by decide +kernel
theorem dX5_makeProduct_19 : decode cX5_makeProduct 19 = .ok (.iaload, 1) := by decide +kernel
theorem dX5_makeProduct_20 : decode cX5_makeProduct 20 = .ok (.ifCond .eq 52, 3) := by decide +kernel
theorem dX5_makeProduct_23 : decode cX5_makeProduct 23 = .ok (.iconst 0, 1) := by decide +kernel
theorem dX5_makeProduct_24 : decode cX5_makeProduct 24 = .ok (.istore 4, 2) := by decide +kernel
theorem dX5_makeProduct_26 : decode cX5_makeProduct 26 = .ok (.iload 4, 2) := by decide +kernel
theorem dX5_makeProduct_28 : decode cX5_makeProduct 28 = .ok (.aload_n 0, 1) := by decide +kernel
theorem dX5_makeProduct_29 : decode cX5_makeProduct 29 = .ok (.getfield 59, 3) := by decide +kernel
theorem dX5_makeProduct_32 : decode cX5_makeProduct 32 = .ok (.getfield 76, 3) := by decide +kernel
theorem dX5_makeProduct_35 : decode cX5_makeProduct 35 = .ok (.if_icmp .ge 37, 3) := by decide +kernel
theorem dX5_makeProduct_38 : decode cX5_makeProduct 38 = .ok (.aload_n 0, 1) := by decide +kernel
theorem dX5_makeProduct_39 : decode cX5_makeProduct 39 = .ok (.getfield 20, 3) := by decide +kernel
theorem dX5_makeProduct_42 : decode cX5_makeProduct 42 = .ok (.aload_n 0, 1) := by decide +kernel
theorem dX5_makeProduct_43 : decode cX5_makeProduct 43 = .ok (.getfield 59, 3) := by decide +kernel
theorem dX5_makeProduct_46 : decode cX5_makeProduct 46 = .ok (.iload_n 3, 1) := by decide +kernel
theorem dX5_makeProduct_47 : decode cX5_makeProduct 47 = .ok (.iload 4, 2) := by decide +kernel
theorem dX5_makeProduct_49 : decode cX5_makeProduct 49 = .ok (.invokevirtual 151, 3) := by decide +kernel
theorem dX5_makeProduct_52 : decode cX5_makeProduct 52 = .ok (.dup2, 1) := by decide +kernel
theorem dX5_makeProduct_53 : decode cX5_makeProduct 53 = .ok (.laload, 1) := by decide +kernel
theorem dX5_makeProduct_54 : decode cX5_makeProduct 54 = .ok (.aload_n 1, 1) := by decide +kernel
theorem dX5_makeProduct_55 : decode cX5_makeProduct 55 = .ok (.iload_n 3, 1) := by decide +kernel
theorem dX5_makeProduct_56 : decode cX5_makeProduct 56 = .ok (.iaload, 1) := by decide +kernel
theorem dX5_makeProduct_57 : decode cX5_makeProduct 57 = .ok (.i2l, 1) := by decide +kernel
theorem dX5_makeProduct_58 : decode cX5_makeProduct 58 = .ok (.aload_n 2, 1) := by decide +kernel
theorem dX5_makeProduct_59 : decode cX5_makeProduct 59 = .ok (.iload 4, 2) := by decide +kernel
theorem dX5_makeProduct_61 : decode cX5_makeProduct 61 = .ok (.iaload, 1) := by decide +kernel
theorem dX5_makeProduct_62 : decode cX5_makeProduct 62 = .ok (.i2l, 1) := by decide +kernel
theorem dX5_makeProduct_63 : decode cX5_makeProduct 63 = .ok (.lmul, 1) := by decide +kernel
theorem dX5_makeProduct_64 : decode cX5_makeProduct 64 = .ok (.ladd, 1) := by decide +kernel
theorem dX5_makeProduct_65 : decode cX5_makeProduct 65 = .ok (.lastore, 1) := by decide +kernel
theorem dX5_makeProduct_66 : decode cX5_makeProduct 66 = .ok (.iinc 4 1, 3) := by decide +kernel
theorem dX5_makeProduct_69 : decode cX5_makeProduct 69 = .ok (.goto (-43), 3) := by decide +kernel
theorem dX5_makeProduct_72 : decode cX5_makeProduct 72 = .ok (.iinc 3 1, 3) := by decide +kernel
theorem dX5_makeProduct_75 : decode cX5_makeProduct 75 = .ok (.goto (-69), 3) := by decide +kernel
theorem dX5_makeProduct_78 : decode cX5_makeProduct 78 = .ok (.return_, 1) := by decide +kernel
set_option maxRecDepth 20000 in
theorem ggX5_settle_X0_keep : GoodIn wsX5_settle wsX0_keep := goodIn_r _ [14, 15, 16, 17, 18, 19, 20, 21, 22, 23, 24, 25, 26, 47, 48, 49, 50] (by decide +kernel) (by decide +kernel)
set_option maxRecDepth 20000 in
theorem gX5_settle_X0_keep : GoodIn wsX5_settle (wsV RX5 72 RX0 yX0_keep wsX0_keep) := goodIn_app (goodIn_of _ (by decide +kernel)) ggX5_settle_X0_keep
theorem dX5_settle_0 : decode cX5_settle 0 = .ok (.iconst 0, 1) := by decide +kernel
theorem dX5_settle_1 : decode cX5_settle 1 = .ok (.istore_n 3, 1) := by decide +kernel
theorem dX5_settle_2 : decode cX5_settle 2 = .ok (.iload_n 3, 1) := by decide +kernel
theorem dX5_settle_3 : decode cX5_settle 3 = .ok (.aload_n 0, 1) := by decide +kernel
theorem dX5_settle_4 : decode cX5_settle 4 = .ok (.getfield 59, 3) := by decide +kernel
theorem dX5_settle_7 : decode cX5_settle 7 = .ok (.getfield 76, 3) := by decide +kernel
theorem dX5_settle_10 : decode cX5_settle 10 = .ok (.if_icmp .ge 38, 3) := by decide +kernel
theorem dX5_settle_13 : decode cX5_settle 13 = .ok (.aload_n 0, 1) := by decide +kernel
theorem dX5_settle_14 : decode cX5_settle 14 = .ok (.getfield 20, 3) := by decide +kernel
theorem dX5_settle_17 : decode cX5_settle 17 = .ok (.iload_n 3, 1) := by decide +kernel
theorem dX5_settle_18 : decode cX5_settle 18 = .ok (.laload, 1) := by decide +kernel
theorem dX5_settle_19 : decode cX5_settle 19 = .ok (.ldc2_w 214, 3) := by decide +kernel
theorem dX5_settle_22 : decode cX5_settle 22 = .ok (.lcmp, 1) := by decide +kernel
theorem dX5_settle_23 : decode cX5_settle 23 = .ok (.ifCond .lt 16, 3) := by decide +kernel
theorem dX5_settle_26 : decode cX5_settle 26 = .ok (.aload_n 0, 1) := by decide +kernel
theorem dX5_settle_27 : decode cX5_settle 27 = .ok (.getfield 20, 3) := by decide +kernel
theorem dX5_settle_30 : decode cX5_settle 30 = .ok (.iload_n 3, 1) := by decide +kernel
theorem dX5_settle_31 : decode cX5_settle 31 = .ok (.laload, 1) := by decide +kernel
theorem dX5_settle_32 : decode cX5_settle 32 = .ok (.ldc2_w 216, 3) := by decide +kernel
theorem dX5_settle_35 : decode cX5_settle 35 = .ok (.lcmp, 1) := by decide +kernel
theorem dX5_settle_36 : decode cX5_settle 36 = .ok (.ifCond .le 6, 3) := by decide +kernel
theorem dX5_settle_39 : decode cX5_settle 39 = .ok (.ldc 200, 2) := by decide +kernel
theorem dX5_settle_41 : decode cX5_settle 41 = .ok (.ireturn, 1) := by decide +kernel
theorem dX5_settle_42 : decode cX5_settle 42 = .ok (.iinc 3 1, 3) := by decide +kernel
theorem dX5_settle_45 : decode cX5_settle 45 = .ok (.goto (-43), 3) := by decide +kernel
theorem dX5_settle_48 : decode cX5_settle 48 = .ok (.aload_n 0, 1) := by decide +kernel
theorem dX5_settle_49 : decode cX5_settle 49 = .ok (.getfield 30, 3) := by decide +kernel
theorem dX5_settle_52 : decode cX5_settle 52 = .ok (.aload_n 0, 1) := by decide +kernel
theorem dX5_settle_53 : decode cX5_settle 53 = .ok (.getfield 59, 3) := by decide +kernel
theorem dX5_settle_56 : decode cX5_settle 56 = .ok (.getfield 68, 3) := by decide +kernel
theorem dX5_settle_59 : decode cX5_settle 59 = .ok (.aload_n 0, 1) := by decide +kernel
theorem dX5_settle_60 : decode cX5_settle 60 = .ok (.getfield 17, 3) := by decide +kernel
theorem dX5_settle_63 : decode cX5_settle 63 = .ok (.invokevirtual 72, 3) := by decide +kernel
theorem dX5_settle_66 : decode cX5_settle 66 = .ok (.iconst 0, 1) := by decide +kernel
theorem dX5_settle_67 : decode cX5_settle 67 = .ok (.istore_n 3, 1) := by decide +kernel
theorem dX5_settle_68 : decode cX5_settle 68 = .ok (.iload_n 3, 1) := by decide +kernel
theorem dX5_settle_69 : decode cX5_settle 69 = .ok (.aload_n 0, 1) := by decide +kernel
theorem dX5_settle_70 : decode cX5_settle 70 = .ok (.getfield 59, 3) := by decide +kernel
theorem dX5_settle_73 : decode cX5_settle 73 = .ok (.getfield 76, 3) := by decide +kernel
theorem dX5_settle_76 : decode cX5_settle 76 = .ok (.if_icmp .ge 24, 3) := by decide +kernel
theorem dX5_settle_79 : decode cX5_settle 79 = .ok (.aload_n 0, 1) := by decide +kernel
theorem dX5_settle_80 : decode cX5_settle 80 = .ok (.getfield 17, 3) := by decide +kernel
theorem dX5_settle_83 : decode cX5_settle 83 = .ok (.iload_n 1, 1) := by decide +kernel
theorem dX5_settle_84 : decode cX5_settle 84 = .ok (.aaload, 1) := by decide +kernel
theorem dX5_settle_85 : decode cX5_settle 85 = .ok (.iload_n 3, 1) := by decide +kernel
theorem dX5_settle_86 : decode cX5_settle 86 = .ok (.aload_n 0, 1) := by decide +kernel
theorem dX5_settle_87 : decode cX5_settle 87 = .ok (.getfield 20, 3) := by decide +kernel
theorem dX5_settle_90 : decode cX5_settle 90 = .ok (.iload_n 3, 1) := by decide +kernel
theorem dX5_settle_91 : decode cX5_settle 91 = .ok (.laload, 1) := by decide +kernel
theorem dX5_settle_92 : decode cX5_settle 92 = .ok (.l2i, 1) := by decide +kernel
theorem dX5_settle_93 : decode cX5_settle 93 = .ok (.iastore, 1) := by decide +kernel
