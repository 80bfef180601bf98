theorem dX1_fillProducts_154 : decode cX1_fillProducts 154 = .ok (.return_, 1) := by decide +kernel
set_option maxRecDepth 20000 in
theorem ggX1_withExchanged_X1_letterAt : GoodIn wsX1_withExchanged wsX1_letterAt := goodIn_r _ [7, 8, 1, 15, 16, 17, 18, 19, 20, 21, 22, 23, 24, 25] (by decide +kernel) (by decide +kernel)
set_option maxRecDepth 20000 in
theorem gX1_withExchanged_X1_letterAt : GoodIn wsX1_withExchanged (wsV RX1 54 RX1 yX1_letterAt wsX1_letterAt) := goodIn_app (goodIn_of _ (by decide +kernel)) ggX1_withExchanged_X1_letterAt
set_option maxRecDepth 20000 in
theorem ggX1_withExchanged_X1_numberOf : GoodIn wsX1_withExchanged wsX1_numberOf := goodIn_r _ [11, 12, 13, 6, 14] (by decide +kernel) (by decide +kernel)
set_option maxRecDepth 20000 in
theorem gX1_withExchanged_X1_numberOf : GoodIn wsX1_withExchanged (va_wsS RX1 58 yX1_numberOf wsX1_numberOf) := goodIn_app (goodIn_of _ (by decide +kernel)) ggX1_withExchanged_X1_numberOf
theorem dX1_withExchanged_0 : decode cX1_withExchanged 0 = .ok (.iconst 0, 1) := by decide +kernel
theorem dX1_withExchanged_1 : decode cX1_withExchanged 1 = .ok (.istore_n 3, 1) := by decide +kernel
theorem dX1_withExchanged_2 : decode cX1_withExchanged 2 = .ok (.iload_n 3, 1) := by decide +kernel
theorem dX1_withExchanged_3 : decode cX1_withExchanged 3 = .ok (.aload_n 0, 1) := by decide +kernel
theorem dX1_withExchanged_4 : decode cX1_withExchanged 4 = .ok (.getfield 7, 3) := by decide +kernel
theorem dX1_withExchanged_7 : decode cX1_withExchanged 7 = .ok (.if_icmp .ge 21, 3) := by decide +kernel
theorem dX1_withExchanged_10 : decode cX1_withExchanged 10 = .ok (.aload_n 0, 1) := by decide +kernel
theorem dX1_withExchanged_11 : decode cX1_withExchanged 11 = .ok (.getfield 41, 3) := by decide +kernel
theorem dX1_withExchanged_14 : decode cX1_withExchanged 14 = .ok (.iload_n 3, 1) := by decide +kernel
theorem dX1_withExchanged_15 : decode cX1_withExchanged 15 = .ok (.aload_n 0, 1) := by decide +kernel
theorem dX1_withExchanged_16 : decode cX1_withExchanged 16 = .ok (.iload_n 1, 1) := by decide +kernel
theorem dX1_withExchanged_17 : decode cX1_withExchanged 17 = .ok (.iload_n 3, 1) := by decide +kernel
theorem dX1_withExchanged_18 : decode cX1_withExchanged 18 = .ok (.invokevirtual 54, 3) := by decide +kernel
theorem dX1_withExchanged_21 : decode cX1_withExchanged 21 = .ok (.iastore, 1) := by decide +kernel
theorem dX1_withExchanged_22 : decode cX1_withExchanged 22 = .ok (.iinc 3 1, 3) := by decide +kernel
theorem dX1_withExchanged_25 : decode cX1_withExchanged 25 = .ok (.goto (-23), 3) := by decide +kernel
theorem dX1_withExchanged_28 : decode cX1_withExchanged 28 = .ok (.aload_n 0, 1) := by decide +kernel
theorem dX1_withExchanged_29 : decode cX1_withExchanged 29 = .ok (.getfield 41, 3) := by decide +kernel
theorem dX1_withExchanged_32 : decode cX1_withExchanged 32 = .ok (.iload_n 2, 1) := by decide +kernel
theorem dX1_withExchanged_33 : decode cX1_withExchanged 33 = .ok (.aload_n 0, 1) := by decide +kernel
theorem dX1_withExchanged_34 : decode cX1_withExchanged 34 = .ok (.iload_n 1, 1) := by decide +kernel
theorem dX1_withExchanged_35 : decode cX1_withExchanged 35 = .ok (.iload_n 2, 1) := by decide +kernel
theorem dX1_withExchanged_36 : decode cX1_withExchanged 36 = .ok (.iconst 1, 1) := by decide +kernel
theorem dX1_withExchanged_37 : decode cX1_withExchanged 37 = .ok (.iadd, 1) := by decide +kernel
theorem dX1_withExchanged_38 : decode cX1_withExchanged 38 = .ok (.invokevirtual 54, 3) := by decide +kernel
theorem dX1_withExchanged_41 : decode cX1_withExchanged 41 = .ok (.iastore, 1) := by decide +kernel
theorem dX1_withExchanged_42 : decode cX1_withExchanged 42 = .ok (.aload_n 0, 1) := by decide +kernel
theorem dX1_withExchanged_43 : decode cX1_withExchanged 43 = .ok (.getfield 41, 3) := by decide +kernel
theorem dX1_withExchanged_46 : decode cX1_withExchanged 46 = .ok (.iload_n 2, 1) := by decide +kernel
theorem dX1_withExchanged_47 : decode cX1_withExchanged 47 = .ok (.iconst 1, 1) := by decide +kernel
theorem dX1_withExchanged_48 : decode cX1_withExchanged 48 = .ok (.iadd, 1) := by decide +kernel
theorem dX1_withExchanged_49 : decode cX1_withExchanged 49 = .ok (.aload_n 0, 1) := by decide +kernel
theorem dX1_withExchanged_50 : decode cX1_withExchanged 50 = .ok (.iload_n 1, 1) := by decide +kernel
theorem dX1_withExchanged_51 : decode cX1_withExchanged 51 = .ok (.iload_n 2, 1) := by decide +kernel
theorem dX1_withExchanged_52 : decode cX1_withExchanged 52 = .ok (.invokevirtual 54, 3) := by decide +kernel
theorem dX1_withExchanged_55 : decode cX1_withExchanged 55 = .ok (.iastore, 1) := by decide +kernel
theorem dX1_withExchanged_56 : decode cX1_withExchanged 56 = .ok (.aload_n 0, 1) := by decide +kernel
theorem dX1_withExchanged_57 : decode cX1_withExchanged 57 = .ok (.getfield 41, 3) := by decide +kernel
theorem dX1_withExchanged_60 : decode cX1_withExchanged 60 = .ok (.aload_n 0, 1) := by decide +kernel
theorem dX1_withExchanged_61 : decode cX1_withExchanged 61 = .ok (.getfield 7, 3) := by decide +kernel
theorem dX1_withExchanged_64 : decode cX1_withExchanged 64 = .ok (.invokestatic 58, 3) := by decide +kernel
theorem dX1_withExchanged_67 : decode cX1_withExchanged 67 = .ok (.ireturn, 1) := by decide +kernel
theorem dX1_firstDescent_0 : decode cX1_firstDescent 0 = .ok (.iconst 0, 1) := by decide +kernel
theorem dX1_firstDescent_1 : decode cX1_firstDescent 1 = .ok (.istore_n 2, 1) := by decide +kernel
theorem dX1_firstDescent_2 : decode cX1_firstDescent 2 = .ok (.iload_n 2, 1) := by decide +kernel
theorem dX1_firstDescent_3 : decode cX1_firstDescent 3 = .ok (.aload_n 0, 1) := by decide +kernel
theorem dX1_firstDescent_4 : decode cX1_firstDescent 4 = .ok (.getfield 7, 3) := by decide +kernel
theorem dX1_firstDescent_7 : decode cX1_firstDescent 7 = .ok (.iconst 1, 1) := by decide +kernel
theorem dX1_firstDescent_8 : decode cX1_firstDescent 8 = .ok (.isub, 1) := by decide +kernel
theorem dX1_firstDescent_9 : decode cX1_firstDescent 9 = .ok (.if_icmp .ge 25, 3) := by decide +kernel
theorem dX1_firstDescent_12 : decode cX1_firstDescent 12 = .ok (.aload_n 0, 1) := by decide +kernel
theorem dX1_firstDescent_13 : decode cX1_firstDescent 13 = .ok (.getfield 19, 3) := by decide +kernel
theorem dX1_firstDescent_16 : decode cX1_firstDescent 16 = .ok (.iload_n 1, 1) := by decide +kernel
theorem dX1_firstDescent_17 : decode cX1_firstDescent 17 = .ok (.iaload, 1) := by decide +kernel
theorem dX1_firstDescent_18 : decode cX1_firstDescent 18 = .ok (.iload_n 2, 1) := by decide +kernel
theorem dX1_firstDescent_19 : decode cX1_firstDescent 19 = .ok (.ishr, 1) := by decide +kernel
theorem dX1_firstDescent_20 : decode cX1_firstDescent 20 = .ok (.iconst 1, 1) := by decide +kernel
theorem dX1_firstDescent_21 : decode cX1_firstDescent 21 = .ok (.iand, 1) := by decide +kernel
theorem dX1_firstDescent_22 : decode cX1_firstDescent 22 = .ok (.iconst 1, 1) := by decide +kernel
theorem dX1_firstDescent_23 : decode cX1_firstDescent 23 = .ok (.if_icmp .ne 5, 3) := by decide +kernel
theorem dX1_firstDescent_26 : decode cX1_firstDescent 26 = .ok (.iload_n 2, 1) := by decide +kernel
theorem dX1_firstDescent_27 : decode cX1_firstDescent 27 = .ok (.ireturn, 1) := by decide +kernel
theorem dX1_firstDescent_28 : decode cX1_firstDescent 28 = .ok (.iinc 2 1, 3) := by decide +kernel
theorem dX1_firstDescent_31 : decode cX1_firstDescent 31 = .ok (.goto (-29), 3) := by decide +kernel
theorem dX1_firstDescent_34 : decode cX1_firstDescent 34 = .ok (.iconst 0, 1) := by decide +kernel
theorem dX1_firstDescent_35 : decode cX1_firstDescent 35 = .ok (.ireturn, 1) := by decide +kernel
theorem dX2_init_0 : decode cX2_init 0 = .ok (.aload_n 0, 1) := by decide +kernel
theorem dX2_init_1 : decode cX2_init 1 = .ok (.invokespecial 1, 3) := by decide +kernel
theorem dX2_init_4 : decode cX2_init 4 = .ok (.aload_n 0, 1) := by decide +kernel
theorem dX2_init_5 : decode cX2_init 5 = .ok (.iconst 0, 1) := by decide +kernel
theorem dX2_init_6 : decode cX2_init 6 = .ok (.putfield 7, 3) := by decide +kernel
theorem dX2_init_9 : decode cX2_init 9 = .ok (.aload_n 0, 1) := by decide +kernel
theorem dX2_init_10 : decode cX2_init 10 = .ok (.bipush 60, 2) := by decide +kernel
theorem dX2_init_12 : decode cX2_init 12 = .ok (.newarray .char, 2) := by decide +kernel
theorem dX2_init_14 : decode cX2_init 14 = .ok (.putfield 13, 3) := by decide +kernel
theorem dX2_init_17 : decode cX2_init 17 = .ok (.return_, 1) := by decide +kernel
theorem dX3_init_0 : decode cX3_init 0 = .ok (.aload_n 0, 1) := by decide +kernel
theorem dX3_init_1 : decode cX3_init 1 = .ok (.invokespecial 3, 3) := by decide +kernel
theorem dX3_init_4 : decode cX3_init 4 = .ok (.aload_n 0, 1) := by decide +kernel
theorem dX3_init_5 : decode cX3_init 5 = .ok (.iconst 1, 1) := by decide +kernel
theorem dX3_init_6 : decode cX3_init 6 = .ok (.putfield 9, 3) := by decide +kernel
theorem dX3_init_9 : decode cX3_init 9 = .ok (.aload_n 0, 1) := by decide +kernel
theorem dX3_init_10 : decode cX3_init 10 = .ok (.iconst 1, 1) := by decide +kernel
theorem dX3_init_11 : decode cX3_init 11 = .ok (.putfield 15, 3) := by decide +kernel
theorem dX3_init_14 : decode cX3_init 14 = .ok (.aload_n 0, 1) := by decide +kernel
theorem dX3_init_15 : decode cX3_init 15 = .ok (.iconst 1, 1) := by decide +kernel
theorem dX3_init_16 : decode cX3_init 16 = .ok (.putfield 18, 3) := by decide +kernel
theorem dX3_init_19 : decode cX3_init 19 = .ok (.aload_n 0, 1) := by decide +kernel
theorem dX3_init_20 : decode cX3_init 20 = .ok (.iconst (-1), 1) := by decide +kernel
theorem dX3_init_21 : decode cX3_init 21 = .ok (.putfield 21, 3) := by decide +kernel
theorem dX3_init_24 : decode cX3_init 24 = .ok (.aload_n 0, 1) := by decide +kernel
theorem dX3_init_25 : decode cX3_init 25 = .ok (.iconst 5, 1) := by decide +kernel
theorem dX3_init_26 : decode cX3_init 26 = .ok (.newarray .int, 2) := by decide +kernel
theorem dX3_init_28 : decode cX3_init 28 = .ok (.putfield 24, 3) := by decide +kernel
theorem dX3_init_31 : decode cX3_init 31 = .ok (.aload_n 0, 1) := by decide +kernel
theorem dX3_init_32 : decode cX3_init 32 = .ok (.iconst 5, 1) := by decide +kernel
theorem dX3_init_33 : decode cX3_init 33 = .ok (.newarray .int, 2) := by decide +kernel
theorem dX3_init_35 : decode cX3_init 35 = .ok (.putfield 28, 3) := by decide +kernel
theorem dX3_init_38 : decode cX3_init 38 = .ok (.return_, 1) := by decide +kernel
set_option maxRecDepth 20000 in
theorem ggX3_tell_X3_cut : GoodIn wsX3_tell wsX3_cut := goodIn_r _ [10] (by decide +kernel) (by decide +kernel)
set_option maxRecDepth 20000 in
theorem gX3_tell_X3_cut : GoodIn wsX3_tell (va_wsS RX3 31 yX3_cut wsX3_cut) := goodIn_app (goodIn_of _ (by decide +kernel)) ggX3_tell_X3_cut
set_option maxRecDepth 20000 in
theorem ggX3_tell_X3_ways : GoodIn wsX3_tell wsX3_ways := goodIn_r _ [13, 5, 6, 3, 4, 2, 14, 15, 16, 17, 1, 11, 12, 9, 18, 19, 20, 21, 22, 23, 24, 25, 26] (by decide +kernel) (by decide +kernel)
set_option maxRecDepth 20000 in
theorem gX3_tell_X3_ways : GoodIn wsX3_tell (va_wsS RX3 35 yX3_ways wsX3_ways) := goodIn_app (goodIn_of _ (by decide +kernel)) ggX3_tell_X3_ways
theorem dX3_tell_0 : decode cX3_tell 0 = .ok (.aload_n 0, 1) := by decide +kernel
theorem dX3_tell_1 : decode cX3_tell 1 = .ok (.iload_n 1, 1) := by decide +kernel
theorem dX3_tell_2 : decode cX3_tell 2 = .ok (.putfield 9, 3) := by decide +kernel
theorem dX3_tell_5 : decode cX3_tell 5 = .ok (.aload_n 0, 1) := by decide +kernel
theorem dX3_tell_6 : decode cX3_tell 6 = .ok (.iload_n 1, 1) := by decide +kernel
theorem dX3_tell_7 : decode cX3_tell 7 = .ok (.iload_n 2, 1) := by decide +kernel
theorem dX3_tell_8 : decode cX3_tell 8 = .ok (.aload_n 0, 1) := by decide +kernel
theorem dX3_tell_9 : decode cX3_tell 9 = .ok (.getfield 28, 3) := by decide +kernel
theorem dX3_tell_12 : decode cX3_tell 12 = .ok (.invokestatic 31, 3) := by decide +kernel
theorem dX3_tell_15 : decode cX3_tell 15 = .ok (.putfield 15, 3) := by decide +kernel
theorem dX3_tell_18 : decode cX3_tell 18 = .ok (.aload_n 0, 1) := by decide +kernel
theorem dX3_tell_19 : decode cX3_tell 19 = .ok (.iload_n 1, 1) := by decide +kernel
theorem dX3_tell_20 : decode cX3_tell 20 = .ok (.iload_n 3, 1) := by decide +kernel
theorem dX3_tell_21 : decode cX3_tell 21 = .ok (.aload_n 0, 1) := by decide +kernel
theorem dX3_tell_22 : decode cX3_tell 22 = .ok (.getfield 24, 3) := by decide +kernel
theorem dX3_tell_25 : decode cX3_tell 25 = .ok (.invokestatic 31, 3) := by decide +kernel
theorem dX3_tell_28 : decode cX3_tell 28 = .ok (.putfield 18, 3) := by decide +kernel
theorem dX3_tell_31 : decode cX3_tell 31 = .ok (.aload_n 0, 1) := by decide +kernel
theorem dX3_tell_32 : decode cX3_tell 32 = .ok (.iload 4, 2) := by decide +kernel
theorem dX3_tell_34 : decode cX3_tell 34 = .ok (.putfield 21, 3) := by decide +kernel
theorem dX3_tell_37 : decode cX3_tell 37 = .ok (.aload_n 0, 1) := by decide +kernel
theorem dX3_tell_38 : decode cX3_tell 38 = .ok (.iconst 0, 1) := by decide +kernel
theorem dX3_tell_39 : decode cX3_tell 39 = .ok (.iconst 0, 1) := by decide +kernel
theorem dX3_tell_40 : decode cX3_tell 40 = .ok (.iconst 0, 1) := by decide +kernel
theorem dX3_tell_41 : decode cX3_tell 41 = .ok (.iconst 0, 1) := by decide +kernel
theorem dX3_tell_42 : decode cX3_tell 42 = .ok (.invokestatic 35, 3) := by decide +kernel
theorem dX3_tell_45 : decode cX3_tell 45 = .ok (.ireturn, 1) := by decide +kernel
theorem dX3_cut_0 : decode cX3_cut 0 = .ok (.iconst 0, 1) := by decide +kernel
theorem dX3_cut_1 : decode cX3_cut 1 = .ok (.istore_n 3, 1) := by decide +kernel
theorem dX3_cut_2 : decode cX3_cut 2 = .ok (.iconst 0, 1) := by decide +kernel
theorem dX3_cut_3 : decode cX3_cut 3 = .ok (.istore 4, 2) := by decide +kernel
theorem dX3_cut_5 : decode cX3_cut 5 = .ok (.iconst 0, 1) := by decide +kernel
theorem dX3_cut_6 : decode cX3_cut 6 = .ok (.istore 5, 2) := by decide +kernel
theorem dX3_cut_8 : decode cX3_cut 8 = .ok (.iload 5, 2) := by decide +kernel
theorem dX3_cut_10 : decode cX3_cut 10 = .ok (.iload_n 0, 1) := by decide +kernel
theorem dX3_cut_11 : decode cX3_cut 11 = .ok (.if_icmp .ge 41, 3) := by decide +kernel
theorem dX3_cut_14 : decode cX3_cut 14 = .ok (.iinc 4 1, 3) := by decide +kernel
theorem dX3_cut_17 : decode cX3_cut 17 = .ok (.iload 5, 2) := by decide +kernel
theorem dX3_cut_19 : decode cX3_cut 19 = .ok (.iload_n 0, 1) := by decide +kernel
theorem dX3_cut_20 : decode cX3_cut 20 = .ok (.iconst 1, 1) := by decide +kernel
theorem dX3_cut_21 : decode cX3_cut 21 = .ok (.isub, 1) := by decide +kernel
theorem dX3_cut_22 : decode cX3_cut 22 = .ok (.if_icmp .eq 13, 3) := by decide +kernel
theorem dX3_cut_25 : decode cX3_cut 25 = .ok (.iload_n 1, 1) := by decide +kernel
theorem dX3_cut_26 : decode cX3_cut 26 = .ok (.iload 5, 2) := by decide +kernel
theorem dX3_cut_28 : decode cX3_cut 28 = .ok (.ishr, 1) := by decide +kernel
theorem dX3_cut_29 : decode cX3_cut 29 = .ok (.iconst 1, 1) := by decide +kernel
theorem dX3_cut_30 : decode cX3_cut 30 = .ok (.iand, 1) := by decide +kernel
theorem dX3_cut_31 : decode cX3_cut 31 = .ok (.iconst 1, 1) := by decide +kernel
theorem dX3_cut_32 : decode cX3_cut 32 = .ok (.if_icmp .ne 14, 3) := by decide +kernel
theorem dX3_cut_35 : decode cX3_cut 35 = .ok (.aload_n 2, 1) := by decide +kernel
theorem dX3_cut_36 : decode cX3_cut 36 = .ok (.iload_n 3, 1) := by decide +kernel
theorem dX3_cut_37 : decode cX3_cut 37 = .ok (.iload 4, 2) := by decide +kernel
theorem dX3_cut_39 : decode cX3_cut 39 = .ok (.iastore, 1) := by decide +kernel
theorem dX3_cut_40 : decode cX3_cut 40 = .ok (.iinc 3 1, 3) := by decide +kernel
theorem dX3_cut_43 : decode cX3_cut 43 = .ok (.iconst 0, 1) := by decide +kernel
theorem dX3_cut_44 : decode cX3_cut 44 = .ok (.istore 4, 2) := by decide +kernel
theorem dX3_cut_46 : decode cX3_cut 46 = .ok (.iinc 5 1, 3) := by decide +kernel
theorem dX3_cut_49 : decode cX3_cut 49 = .ok (.goto (-41), 3) := by decide +kernel
theorem dX3_cut_52 : decode cX3_cut 52 = .ok (.iload_n 3, 1) := by decide +kernel
theorem dX3_cut_53 : decode cX3_cut 53 = .ok (.ireturn, 1) := by decide +kernel
set_option maxRecDepth 20000 in
theorem ggX3_ways_X3_ways : GoodIn wsX3_ways wsX3_ways := goodIn_r _ [0, 1, 2, 3, 4, 5, 6, 7, 8, 9, 10, 11, 12, 13, 14, 15, 16, 17, 18, 19, 20, 21, 22] (by decide +kernel) (by decide +kernel)
set_option maxRecDepth 20000 in
theorem gX3_ways_X3_ways : GoodIn wsX3_ways (va_wsS RX3 35 yX3_ways wsX3_ways) := goodIn_app (goodIn_of _ (by decide +kernel)) ggX3_ways_X3_ways
set_option maxRecDepth 20000 in
theorem ggX3_ways_X3_withCut : GoodIn wsX3_ways wsX3_withCut := goodIn_r _ [16] (by decide +kernel) (by decide +kernel)
set_option maxRecDepth 20000 in
theorem gX3_ways_X3_withCut : GoodIn wsX3_ways (va_wsS RX3 45 yX3_withCut wsX3_withCut) := goodIn_app (goodIn_of _ (by decide +kernel)) ggX3_ways_X3_withCut
theorem dX3_ways_0 : decode cX3_ways 0 = .ok (.iload_n 1, 1) := by decide +kernel
theorem dX3_ways_1 : decode cX3_ways 1 = .ok (.ifCond .lt 11, 3) := by decide +kernel
theorem dX3_ways_4 : decode cX3_ways 4 = .ok (.iload_n 1, 1) := by decide +kernel
theorem dX3_ways_5 : decode cX3_ways 5 = .ok (.aload_n 0, 1) := by decide +kernel
theorem dX3_ways_6 : decode cX3_ways 6 = .ok (.getfield 18, 3) := by decide +kernel
theorem dX3_ways_9 : decode cX3_ways 9 = .ok (.if_icmp .lt 26, 3) := by decide +kernel
theorem dX3_ways_12 : decode cX3_ways 12 = .ok (.aload_n 0, 1) := by decide +kernel
theorem dX3_ways_13 : decode cX3_ways 13 = .ok (.getfield 21, 3) := by decide +kernel
theorem dX3_ways_16 : decode cX3_ways 16 = .ok (.iconst (-1), 1) := by decide +kernel
theorem dX3_ways_17 : decode cX3_ways 17 = .ok (.if_icmp .eq 12, 3) := by decide +kernel
theorem dX3_ways_20 : decode cX3_ways 20 = .ok (.aload_n 0, 1) := by decide +kernel
theorem dX3_ways_21 : decode cX3_ways 21 = .ok (.getfield 21, 3) := by decide +kernel
theorem dX3_ways_24 : decode cX3_ways 24 = .ok (.iload 4, 2) := by decide +kernel
theorem dX3_ways_26 : decode cX3_ways 26 = .ok (.if_icmp .ne 7, 3) := by decide +kernel
theorem dX3_ways_29 : decode cX3_ways 29 = .ok (.iconst 1, 1) := by decide +kernel
theorem dX3_ways_30 : decode cX3_ways 30 = .ok (.goto 4, 3) := by decide +kernel
theorem dX3_ways_33 : decode cX3_ways 33 = .ok (.iconst 0, 1) := by decide +kernel
theorem dX3_ways_34 : decode cX3_ways 34 = .ok (.ireturn, 1) := by decide +kernel
theorem dX3_ways_35 : decode cX3_ways 35 = .ok (.iload_n 2, 1) := by decide +kernel
theorem dX3_ways_36 : decode cX3_ways 36 = .ok (.ifCond .lt 11, 3) := by decide +kernel
theorem dX3_ways_39 : decode cX3_ways 39 = .ok (.iload_n 2, 1) := by decide +kernel
theorem dX3_ways_40 : decode cX3_ways 40 = .ok (.aload_n 0, 1) := by decide +kernel
theorem dX3_ways_41 : decode cX3_ways 41 = .ok (.getfield 15, 3) := by decide +kernel
theorem dX3_ways_44 : decode cX3_ways 44 = .ok (.if_icmp .lt 28, 3) := by decide +kernel
theorem dX3_ways_47 : decode cX3_ways 47 = .ok (.aload_n 0, 1) := by decide +kernel
theorem dX3_ways_48 : decode cX3_ways 48 = .ok (.getfield 24, 3) := by decide +kernel
theorem dX3_ways_51 : decode cX3_ways 51 = .ok (.iload_n 1, 1) := by decide +kernel
theorem dX3_ways_52 : decode cX3_ways 52 = .ok (.iaload, 1) := by decide +kernel
theorem dX3_ways_53 : decode cX3_ways 53 = .ok (.ifCond .ne 17, 3) := by decide +kernel
theorem dX3_ways_56 : decode cX3_ways 56 = .ok (.aload_n 0, 1) := by decide +kernel
theorem dX3_ways_57 : decode cX3_ways 57 = .ok (.iload_n 1, 1) := by decide +kernel
theorem dX3_ways_58 : decode cX3_ways 58 = .ok (.iconst 1, 1) := by decide +kernel
theorem dX3_ways_59 : decode cX3_ways 59 = .ok (.iadd, 1) := by decide +kernel
theorem dX3_ways_60 : decode cX3_ways 60 = .ok (.iconst 0, 1) := by decide +kernel
theorem dX3_ways_61 : decode cX3_ways 61 = .ok (.iload_n 3, 1) := by decide +kernel
theorem dX3_ways_62 : decode cX3_ways 62 = .ok (.iload 4, 2) := by decide +kernel
theorem dX3_ways_64 : decode cX3_ways 64 = .ok (.invokestatic 35, 3) := by decide +kernel
theorem dX3_ways_67 : decode cX3_ways 67 = .ok (.goto 4, 3) := by decide +kernel
theorem dX3_ways_70 : decode cX3_ways 70 = .ok (.iconst 0, 1) := by decide +kernel
theorem dX3_ways_71 : decode cX3_ways 71 = .ok (.ireturn, 1) := by decide +kernel
theorem dX3_ways_72 : decode cX3_ways 72 = .ok (.iconst 0, 1) := by decide +kernel
theorem dX3_ways_73 : decode cX3_ways 73 = .ok (.istore 5, 2) := by decide +kernel
theorem dX3_ways_75 : decode cX3_ways 75 = .ok (.aload_n 0, 1) := by decide +kernel
theorem dX3_ways_76 : decode cX3_ways 76 = .ok (.getfield 24, 3) := by decide +kernel
theorem dX3_ways_79 : decode cX3_ways 79 = .ok (.iload_n 1, 1) := by decide +kernel
theorem dX3_ways_80 : decode cX3_ways 80 = .ok (.iaload, 1) := by decide +kernel
theorem dX3_ways_81 : decode cX3_ways 81 = .ok (.aload_n 0, 1) := by decide +kernel
theorem dX3_ways_82 : decode cX3_ways 82 = .ok (.getfield 28, 3) := by decide +kernel
theorem dX3_ways_85 : decode cX3_ways 85 = .ok (.iload_n 2, 1) := by decide +kernel
theorem dX3_ways_86 : decode cX3_ways 86 = .ok (.iaload, 1) := by decide +kernel
theorem dX3_ways_87 : decode cX3_ways 87 = .ok (.invokestatic 39, 3) := by decide +kernel
theorem dX3_ways_90 : decode cX3_ways 90 = .ok (.istore 6, 2) := by decide +kernel
theorem dX3_ways_92 : decode cX3_ways 92 = .ok (.iconst 0, 1) := by decide +kernel
theorem dX3_ways_93 : decode cX3_ways 93 = .ok (.istore 7, 2) := by decide +kernel
theorem dX3_ways_95 : decode cX3_ways 95 = .ok (.iload 7, 2) := by decide +kernel
theorem dX3_ways_97 : decode cX3_ways 97 = .ok (.iload 6, 2) := by decide +kernel
theorem dX3_ways_99 : decode cX3_ways 99 = .ok (.if_icmp .gt 83, 3) := by decide +kernel
theorem dX3_ways_102 : decode cX3_ways 102 = .ok (.aload_n 0, 1) := by decide +kernel
theorem dX3_ways_103 : decode cX3_ways 103 = .ok (.getfield 24, 3) := by decide +kernel
theorem dX3_ways_106 : decode cX3_ways 106 = .ok (.iload_n 1, 1) := by decide +kernel
theorem dX3_ways_107 : decode cX3_ways 107 = .ok (.dup2, 1) := by decide +kernel
theorem dX3_ways_108 : decode cX3_ways 108 = .ok (.iaload, 1) := by decide +kernel
theorem dX3_ways_109 : decode cX3_ways 109 = .ok (.iload 7, 2) := by decide +kernel
theorem dX3_ways_111 : decode cX3_ways 111 = .ok (.isub, 1) := by decide +kernel
theorem dX3_ways_112 : decode cX3_ways 112 = .ok (.iastore, 1) := by decide +kernel
theorem dX3_ways_113 : decode cX3_ways 113 = .ok (.aload_n 0, 1) := by decide +kernel
theorem dX3_ways_114 : decode cX3_ways 114 = .ok (.getfield 28, 3) := by decide +kernel
theorem dX3_ways_117 : decode cX3_ways 117 = .ok (.iload_n 2, 1) := by decide +kernel
theorem dX3_ways_118 : decode cX3_ways 118 = .ok (.dup2, 1) := by decide +kernel
theorem dX3_ways_119 : decode cX3_ways 119 = .ok (.iaload, 1) := by decide +kernel
theorem dX3_ways_120 : decode cX3_ways 120 = .ok (.iload 7, 2) := by decide +kernel
theorem dX3_ways_122 : decode cX3_ways 122 = .ok (.isub, 1) := by decide +kernel
theorem dX3_ways_123 : decode cX3_ways 123 = .ok (.iastore, 1) := by decide +kernel
theorem dX3_ways_124 : decode cX3_ways 124 = .ok (.iload 5, 2) := by decide +kernel
theorem dX3_ways_126 : decode cX3_ways 126 = .ok (.aload_n 0, 1) := by decide +kernel
theorem dX3_ways_127 : decode cX3_ways 127 = .ok (.iload_n 1, 1) := by decide +kernel
theorem dX3_ways_128 : decode cX3_ways 128 = .ok (.iload_n 2, 1) := by decide +kernel
theorem dX3_ways_129 : decode cX3_ways 129 = .ok (.iconst 1, 1) := by decide +kernel
theorem dX3_ways_130 : decode cX3_ways 130 = .ok (.iadd, 1) := by decide +kernel
theorem dX3_ways_131 : decode cX3_ways 131 = .ok (.iload_n 3, 1) := by decide +kernel
theorem dX3_ways_132 : decode cX3_ways 132 = .ok (.iload 7, 2) := by decide +kernel
theorem dX3_ways_134 : decode cX3_ways 134 = .ok (.iadd, 1) := by decide +kernel
theorem dX3_ways_135 : decode cX3_ways 135 = .ok (.aload_n 0, 1) := by decide +kernel
theorem dX3_ways_136 : decode cX3_ways 136 = .ok (.getfield 9, 3) := by decide +kernel
theorem dX3_ways_139 : decode cX3_ways 139 = .ok (.iload_n 3, 1) := by decide +kernel
theorem dX3_ways_140 : decode cX3_ways 140 = .ok (.iload 7, 2) := by decide +kernel
theorem dX3_ways_142 : decode cX3_ways 142 = .ok (.iadd, 1) := by decide +kernel
theorem dX3_ways_143 : decode cX3_ways 143 = .ok (.iload 4, 2) := by decide +kernel
theorem dX3_ways_145 : decode cX3_ways 145 = .ok (.invokestatic 45, 3) := by decide +kernel
theorem dX3_ways_148 : decode cX3_ways 148 = .ok (.invokestatic 35, 3) := by decide +kernel
theorem dX3_ways_151 : decode cX3_ways 151 = .ok (.iadd, 1) := by decide +kernel
theorem dX3_ways_152 : decode cX3_ways 152 = .ok (.istore 5, 2) := by decide +kernel
theorem dX3_ways_154 : decode cX3_ways 154 = .ok (.aload_n 0, 1) := by decide +kernel
theorem dX3_ways_155 : decode cX3_ways 155 = .ok (.getfield 24, 3) := by decide +kernel
theorem dX3_ways_158 : decode cX3_ways 158 = .ok (.iload_n 1, 1) := by decide +kernel
theorem dX3_ways_159 : decode cX3_ways 159 = .ok (.dup2, 1) := by decide +kernel
theorem dX3_ways_160 : decode cX3_ways 160 = .ok (.iaload, 1) := by decide +kernel
theorem dX3_ways_161 : decode cX3_ways 161 = .ok (.iload 7, 2) := by decide +kernel
theorem dX3_ways_163 : decode cX3_ways 163 = .ok (.iadd, 1) := by decide +kernel
theorem dX3_ways_164 : decode cX3_ways 164 = .ok (.iastore, 1) := by decide +kernel
theorem dX3_ways_165 : decode cX3_ways 165 = .ok (.aload_n 0, 1) := by decide +kernel
theorem dX3_ways_166 : decode cX3_ways 166 = .ok (.getfield 28, 3) := by decide +kernel
theorem dX3_ways_169 : decode cX3_ways 169 = .ok (.iload_n 2, 1) := by decide +kernel
theorem dX3_ways_170 : decode cX3_ways 170 = .ok (.dup2, 1) := by decide +kernel
theorem dX3_ways_171 : decode cX3_ways 171 = .ok (.iaload, 1) := by decide +kernel
theorem dX3_ways_172 : decode cX3_ways 172 = .ok (.iload 7, 2) := by decide +kernel
theorem dX3_ways_174 : decode cX3_ways 174 = .ok (.iadd, 1) := by decide +kernel
theorem dX3_ways_175 : decode cX3_ways 175 = .ok (.iastore, 1) := by decide +kernel
theorem dX3_ways_176 : decode cX3_ways 176 = .ok (.iinc 7 1, 3) := by decide +kernel
theorem dX3_ways_179 : decode cX3_ways 179 = .ok (.goto (-84), 3) := by decide +kernel
theorem dX3_ways_182 : decode cX3_ways 182 = .ok (.iload 5, 2) := by decide +kernel
theorem dX3_ways_184 : decode cX3_ways 184 = .ok (.ireturn, 1) := by decide +kernel
theorem dX3_withCut_0 : decode cX3_withCut 0 = .ok (.iload_n 1, 1) := by decide +kernel
theorem dX3_withCut_1 : decode cX3_withCut 1 = .ok (.ifCond .le 18, 3) := by decide +kernel
theorem dX3_withCut_4 : decode cX3_withCut 4 = .ok (.iload_n 1, 1) := by decide +kernel
theorem dX3_withCut_5 : decode cX3_withCut 5 = .ok (.iload_n 0, 1) := by decide +kernel
theorem dX3_withCut_6 : decode cX3_withCut 6 = .ok (.if_icmp .ge 13, 3) := by decide +kernel
theorem dX3_withCut_9 : decode cX3_withCut 9 = .ok (.iload_n 2, 1) := by decide +kernel
theorem dX3_withCut_10 : decode cX3_withCut 10 = .ok (.iconst 1, 1) := by decide +kernel
theorem dX3_withCut_11 : decode cX3_withCut 11 = .ok (.iload_n 1, 1) := by decide +kernel
theorem dX3_withCut_12 : decode cX3_withCut 12 = .ok (.iconst 1, 1) := by decide +kernel
theorem dX3_withCut_13 : decode cX3_withCut 13 = .ok (.isub, 1) := by decide +kernel
theorem dX3_withCut_14 : decode cX3_withCut 14 = .ok (.ishl, 1) := by decide +kernel
theorem dX3_withCut_15 : decode cX3_withCut 15 = .ok (.ior, 1) := by decide +kernel
theorem dX3_withCut_16 : decode cX3_withCut 16 = .ok (.goto 4, 3) := by decide +kernel
theorem dX3_withCut_19 : decode cX3_withCut 19 = .ok (.iload_n 2, 1) := by decide +kernel
theorem dX3_withCut_20 : decode cX3_withCut 20 = .ok (.ireturn, 1) := by decide +kernel
theorem dX4_init_0 : decode cX4_init 0 = .ok (.aload_n 0, 1) := by decide +kernel
theorem dX4_init_1 : decode cX4_init 1 = .ok (.invokespecial 3, 3) := by decide +kernel
theorem dX4_init_4 : decode cX4_init 4 = .ok (.aload_n 0, 1) := by decide +kernel
theorem dX4_init_5 : decode cX4_init 5 = .ok (.iconst 0, 1) := by decide +kernel
theorem dX4_init_6 : decode cX4_init 6 = .ok (.putfield 9, 3) := by decide +kernel
theorem dX4_init_9 : decode cX4_init 9 = .ok (.aload_n 0, 1) := by decide +kernel
theorem dX4_init_10 : decode cX4_init 10 = .ok (.iconst 1, 1) := by decide +kernel
theorem dX4_init_11 : decode cX4_init 11 = .ok (.putfield 15, 3) := by decide +kernel
theorem dX4_init_14 : decode cX4_init 14 = .ok (.aload_n 0, 1) := by decide +kernel
theorem dX4_init_15 : decode cX4_init 15 = .ok (.iconst 0, 1) := by decide +kernel
theorem dX4_init_16 : decode cX4_init 16 = .ok (.putfield 18, 3) := by decide +kernel
theorem dX4_init_19 : decode cX4_init 19 = .ok (.aload_n 0, 1) := by decide +kernel
theorem dX4_init_20 : decode cX4_init 20 = .ok (.iconst 0, 1) := by decide +kernel
theorem dX4_init_21 : decode cX4_init 21 = .ok (.putfield 21, 3) := by decide +kernel
theorem dX4_init_24 : decode cX4_init 24 = .ok (.aload_n 0, 1) := by decide +kernel
theorem dX4_init_25 : decode cX4_init 25 = .ok (.iconst 1, 1) := by decide +kernel
theorem dX4_init_26 : decode cX4_init 26 = .ok (.putfield 25, 3) := by decide +kernel
theorem dX4_init_29 : decode cX4_init 29 = .ok (.aload_n 0, 1) := by decide +kernel
theorem dX4_init_30 : decode cX4_init 30 = .ok (.iconst 0, 1) := by decide +kernel
theorem dX4_init_31 : decode cX4_init 31 = .ok (.putfield 28, 3) := by decide +kernel
theorem dX4_init_34 : decode cX4_init 34 = .ok (.aload_n 0, 1) := by decide +kernel
theorem dX4_init_35 : decode cX4_init 35 = .ok (.iconst 0, 1) := by decide +kernel
theorem dX4_init_36 : decode cX4_init 36 = .ok (.putfield 31, 3) := by decide +kernel
theorem dX4_init_39 : decode cX4_init 39 = .ok (.aload_n 0, 1) := by decide +kernel
theorem dX4_init_40 : decode cX4_init 40 = .ok (.iconst 0, 1) := by decide +kernel
theorem dX4_init_41 : decode cX4_init 41 = .ok (.putfield 34, 3) := by decide +kernel
theorem dX4_init_44 : decode cX4_init 44 = .ok (.aload_n 0, 1) := by decide +kernel
theorem dX4_init_45 : decode cX4_init 45 = .ok (.iconst 5, 1) := by decide +kernel
theorem dX4_init_46 : decode cX4_init 46 = .ok (.newarray .int, 2) := by decide +kernel
theorem dX4_init_48 : decode cX4_init 48 = .ok (.putfield 37, 3) := by decide +kernel
theorem dX4_init_51 : decode cX4_init 51 = .ok (.return_, 1) := by decide +kernel
set_option maxRecDepth 20000 in
theorem ggX5_init_X0_init : GoodIn wsX5_init wsX0_init := goodIn_r _ [30, 31, 2, 3, 32, 33, 7, 34, 35, 36, 129, 130, 131, 132] (by decide +kernel) (by decide +kernel)
set_option maxRecDepth 20000 in
theorem gX5_init_X0_init_n29 : GoodIn wsX5_init (wsX0_init) := ggX5_init_X0_init
set_option maxRecDepth 20000 in
theorem ggX5_init_X2_init : GoodIn wsX5_init wsX2_init := goodIn_r _ [38, 39, 2, 3, 40, 41, 42, 133, 134] (by decide +kernel) (by decide +kernel)
set_option maxRecDepth 20000 in
theorem gX5_init_X2_init_n36 : GoodIn wsX5_init (wsX2_init) := ggX5_init_X2_init
set_option maxRecDepth 20000 in
theorem ggX5_init_X4_init : GoodIn wsX5_init wsX4_init := goodIn_r _ [44, 45, 2, 3, 46, 47, 48, 49, 50, 51, 52, 53, 7, 54, 135, 136, 137, 138, 139, 140, 141, 142, 143] (by decide +kernel) (by decide +kernel)
set_option maxRecDepth 20000 in
theorem gX5_init_X4_init_n43 : GoodIn wsX5_init (wsX4_init) := ggX5_init_X4_init
set_option maxRecDepth 20000 in
theorem ggX5_init_X3_init : GoodIn wsX5_init wsX3_init := goodIn_r _ [56, 57, 2, 3, 58, 59, 60, 61, 7, 62, 63, 144, 145, 146, 147, 148, 149] (by decide +kernel) (by decide +kernel)
set_option maxRecDepth 20000 in
theorem gX5_init_X3_init_n50 : GoodIn wsX5_init (wsX3_init) := ggX5_init_X3_init
set_option maxRecDepth 20000 in
theorem ggX5_init_X5_ordersWith : GoodIn wsX5_init wsX5_ordersWith := goodIn_r _ [68, 5, 4, 69, 70, 71, 72, 73, 74, 2, 3, 75, 76, 77, 7, 78, 79, 80, 81, 82, 83, 84, 85, 86, 87, 88, 89, 90, 91, 92, 93, 94, 95, 96, 97, 98, 99, 100, 101, 102, 103, 104, 105, 106, 107, 108, 109, 110, 111, 112, 113, 114, 115, 116, 117, 118, 119, 120, 121, 122, 123, 124, 125, 126, 127, 128, 150, 151, 152, 153, 154, 155, 156, 157, 158, 159, 160] (by decide +kernel) (by decide +kernel)
set_option maxRecDepth 20000 in
theorem gX5_init_X5_ordersWith : GoodIn wsX5_init (wsV RX5 55 RX5 yX5_ordersWith wsX5_ordersWith) := goodIn_app (goodIn_of _ (by decide +kernel)) ggX5_init_X5_ordersWith
theorem dX5_init_0 : decode cX5_init 0 = .ok (.aload_n 0, 1) := by decide +kernel
theorem dX5_init_1 : decode cX5_init 1 = .ok (.invokespecial 1, 3) := by decide +kernel
theorem dX5_init_4 : decode cX5_init 4 = .ok (.aload_n 0, 1) := by decide +kernel
theorem dX5_init_5 : decode cX5_init 5 = .ok (.bipush 6, 2) := by decide +kernel
theorem dX5_init_7 : decode cX5_init 7 = .ok (.anewarray 9, 3) := by decide +kernel
theorem dX5_init_10 : decode cX5_init 10 = .ok (.putfield 11, 3) := by decide +kernel
theorem dX5_init_13 : decode cX5_init 13 = .ok (.aload_n 0, 1) := by decide +kernel
theorem dX5_init_14 : decode cX5_init 14 = .ok (.iconst 3, 1) := by decide +kernel
theorem dX5_init_15 : decode cX5_init 15 = .ok (.bipush 120, 2) := by decide +kernel
theorem dX5_init_17 : decode cX5_init 17 = .ok (.multianewarray 15 2, 4) := by decide +kernel
theorem dX5_init_21 : decode cX5_init 21 = .ok (.putfield 17, 3) := by decide +kernel
theorem dX5_init_24 : decode cX5_init 24 = .ok (.aload_n 0, 1) := by decide +kernel
theorem dX5_init_25 : decode cX5_init 25 = .ok (.bipush 120, 2) := by decide +kernel
theorem dX5_init_27 : decode cX5_init 27 = .ok (.newarray .long, 2) := by decide +kernel
theorem dX5_init_29 : decode cX5_init 29 = .ok (.putfield 20, 3) := by decide +kernel
theorem dX5_init_32 : decode cX5_init 32 = .ok (.aload_n 0, 1) := by decide +kernel
theorem dX5_init_33 : decode cX5_init 33 = .ok (.bipush 16, 2) := by decide +kernel
theorem dX5_init_35 : decode cX5_init 35 = .ok (.newarray .long, 2) := by decide +kernel
theorem dX5_init_37 : decode cX5_init 37 = .ok (.putfield 24, 3) := by decide +kernel
theorem dX5_init_40 : decode cX5_init 40 = .ok (.aload_n 0, 1) := by decide +kernel
theorem dX5_init_41 : decode cX5_init 41 = .ok (.new 27, 3) := by decide +kernel
theorem dX5_init_44 : decode cX5_init 44 = .ok (.dup, 1) := by decide +kernel
theorem dX5_init_45 : decode cX5_init 45 = .ok (.invokespecial 29, 3) := by decide +kernel
theorem dX5_init_48 : decode cX5_init 48 = .ok (.putfield 30, 3) := by decide +kernel
theorem dX5_init_51 : decode cX5_init 51 = .ok (.aload_n 0, 1) := by decide +kernel
theorem dX5_init_52 : decode cX5_init 52 = .ok (.new 34, 3) := by decide +kernel
theorem dX5_init_55 : decode cX5_init 55 = .ok (.dup, 1) := by decide +kernel
theorem dX5_init_56 : decode cX5_init 56 = .ok (.invokespecial 36, 3) := by decide +kernel
theorem dX5_init_59 : decode cX5_init 59 = .ok (.putfield 37, 3) := by decide +kernel
theorem dX5_init_62 : decode cX5_init 62 = .ok (.aload_n 0, 1) := by decide +kernel
theorem dX5_init_63 : decode cX5_init 63 = .ok (.new 41, 3) := by decide +kernel
theorem dX5_init_66 : decode cX5_init 66 = .ok (.dup, 1) := by decide +kernel
theorem dX5_init_67 : decode cX5_init 67 = .ok (.invokespecial 43, 3) := by decide +kernel
theorem dX5_init_70 : decode cX5_init 70 = .ok (.putfield 44, 3) := by decide +kernel
theorem dX5_init_73 : decode cX5_init 73 = .ok (.aload_n 0, 1) := by decide +kernel
theorem dX5_init_74 : decode cX5_init 74 = .ok (.new 48, 3) := by decide +kernel
theorem dX5_init_77 : decode cX5_init 77 = .ok (.dup, 1) := by decide +kernel
theorem dX5_init_78 : decode cX5_init 78 = .ok (.invokespecial 50, 3) := by decide +kernel
theorem dX5_init_81 : decode cX5_init 81 = .ok (.putfield 51, 3) := by decide +kernel
theorem dX5_init_84 : decode cX5_init 84 = .ok (.aload_n 0, 1) := by decide +kernel
theorem dX5_init_85 : decode cX5_init 85 = .ok (.aload_n 0, 1) := by decide +kernel
theorem dX5_init_86 : decode cX5_init 86 = .ok (.iconst 3, 1) := by decide +kernel
theorem dX5_init_87 : decode cX5_init 87 = .ok (.invokevirtual 55, 3) := by decide +kernel
theorem dX5_init_90 : decode cX5_init 90 = .ok (.putfield 59, 3) := by decide +kernel
theorem dX5_init_93 : decode cX5_init 93 = .ok (.return_, 1) := by decide +kernel
set_option maxRecDepth 20000 in
theorem ggX5_begin_X5_isWithin : GoodIn wsX5_begin wsX5_isWithin := goodIn_r _ [10] (by decide +kernel) (by decide +kernel)
set_option maxRecDepth 20000 in
theorem gX5_begin_X5_isWithin : GoodIn wsX5_begin (va_wsS RX5 63 yX5_isWithin wsX5_isWithin) := goodIn_app (goodIn_of _ (by decide +kernel)) ggX5_begin_X5_isWithin
set_option maxRecDepth 20000 in
theorem ggX5_begin_X0_keep : GoodIn wsX5_begin wsX0_keep := goodIn_r _ [15, 16, 17, 18, 19, 20, 21, 22, 23, 24, 25, 26, 27, 108, 109, 110, 111] (by decide +kernel) (by decide +kernel)
set_option maxRecDepth 20000 in
theorem gX5_begin_X0_keep : GoodIn wsX5_begin (wsV RX5 72 RX0 yX0_keep wsX0_keep) := goodIn_app (goodIn_of _ (by decide +kernel)) ggX5_begin_X0_keep
set_option maxRecDepth 20000 in
theorem ggX5_begin_X5_ordersWith : GoodIn wsX5_begin wsX5_ordersWith := goodIn_r _ [31, 32, 33, 34, 35, 36, 37, 38, 39, 40, 41, 42, 43, 44, 45, 46, 47, 48, 49, 50, 51, 52, 53, 54, 55, 56, 57, 58, 59, 60, 61, 62, 63, 64, 65, 66, 67, 68, 69, 70, 71, 72, 73, 74, 75, 76, 77, 78, 79, 80, 81, 82, 83, 84, 85, 86, 87, 88, 89, 90, 91, 92, 93, 94, 95, 96, 97, 98, 99, 100, 101, 102, 103, 104, 105, 106, 107] (by decide +kernel) (by decide +kernel)
set_option maxRecDepth 20000 in
theorem gX5_begin_X5_ordersWith : GoodIn wsX5_begin (wsV RX5 55 RX5 yX5_ordersWith wsX5_ordersWith) := goodIn_app (goodIn_of _ (by decide +kernel)) ggX5_begin_X5_ordersWith
theorem dX5_begin_0 : decode cX5_begin 0 = .ok (.iload_n 1, 1) := by decide +kernel
theorem dX5_begin_1 : decode cX5_begin 1 = .ok (.iconst 1, 1) := by decide +kernel
theorem dX5_begin_2 : decode cX5_begin 2 = .ok (.iconst 5, 1) := by decide +kernel
theorem dX5_begin_3 : decode cX5_begin 3 = .ok (.invokestatic 63, 3) := by decide +kernel
theorem dX5_begin_6 : decode cX5_begin 6 = .ok (.ifCond .ne 6, 3) := by decide +kernel
theorem dX5_begin_9 : decode cX5_begin 9 = .ok (.ldc 67, 2) := by decide +kernel
theorem dX5_begin_11 : decode cX5_begin 11 = .ok (.ireturn, 1) := by decide +kernel
theorem dX5_begin_12 : decode cX5_begin 12 = .ok (.aload_n 0, 1) := by decide +kernel
theorem dX5_begin_13 : decode cX5_begin 13 = .ok (.getfield 30, 3) := by decide +kernel
theorem dX5_begin_16 : decode cX5_begin 16 = .ok (.aload_n 0, 1) := by decide +kernel
theorem dX5_begin_17 : decode cX5_begin 17 = .ok (.getfield 59, 3) := by decide +kernel
theorem dX5_begin_20 : decode cX5_begin 20 = .ok (.getfield 68, 3) := by decide +kernel
theorem dX5_begin_23 : decode cX5_begin 23 = .ok (.aload_n 0, 1) := by decide +kernel
theorem dX5_begin_24 : decode cX5_begin 24 = .ok (.getfield 17, 3) := by decide +kernel
theorem dX5_begin_27 : decode cX5_begin 27 = .ok (.invokevirtual 72, 3) := by decide +kernel
theorem dX5_begin_30 : decode cX5_begin 30 = .ok (.iconst 0, 1) := by decide +kernel
theorem dX5_begin_31 : decode cX5_begin 31 = .ok (.istore_n 2, 1) := by decide +kernel
theorem dX5_begin_32 : decode cX5_begin 32 = .ok (.iload_n 2, 1) := by decide +kernel
theorem dX5_begin_33 : decode cX5_begin 33 = .ok (.iconst 3, 1) := by decide +kernel
theorem dX5_begin_34 : decode cX5_begin 34 = .ok (.if_icmp .ge 32, 3) := by decide +kernel
theorem dX5_begin_37 : decode cX5_begin 37 = .ok (.iconst 0, 1) := by decide +kernel
theorem dX5_begin_38 : decode cX5_begin 38 = .ok (.istore_n 3, 1) := by decide +kernel
theorem dX5_begin_39 : decode cX5_begin 39 = .ok (.iload_n 3, 1) := by decide +kernel
theorem dX5_begin_40 : decode cX5_begin 40 = .ok (.bipush 120, 2) := by decide +kernel
theorem dX5_begin_42 : decode cX5_begin 42 = .ok (.if_icmp .ge 18, 3) := by decide +kernel
theorem dX5_begin_45 : decode cX5_begin 45 = .ok (.aload_n 0, 1) := by decide +kernel
theorem dX5_begin_46 : decode cX5_begin 46 = .ok (.getfield 17, 3) := by decide +kernel
theorem dX5_begin_49 : decode cX5_begin 49 = .ok (.iload_n 2, 1) := by decide +kernel
theorem dX5_begin_50 : decode cX5_begin 50 = .ok (.aaload, 1) := by decide +kernel
theorem dX5_begin_51 : decode cX5_begin 51 = .ok (.iload_n 3, 1) := by decide +kernel
theorem dX5_begin_52 : decode cX5_begin 52 = .ok (.iconst 0, 1) := by decide +kernel
theorem dX5_begin_53 : decode cX5_begin 53 = .ok (.iastore, 1) := by decide +kernel
theorem dX5_begin_54 : decode cX5_begin 54 = .ok (.iinc 3 1, 3) := by decide +kernel
theorem dX5_begin_57 : decode cX5_begin 57 = .ok (.goto (-18), 3) := by decide +kernel
theorem dX5_begin_60 : decode cX5_begin 60 = .ok (.iinc 2 1, 3) := by decide +kernel
theorem dX5_begin_63 : decode cX5_begin 63 = .ok (.goto (-31), 3) := by decide +kernel
theorem dX5_begin_66 : decode cX5_begin 66 = .ok (.aload_n 0, 1) := by decide +kernel
theorem dX5_begin_67 : decode cX5_begin 67 = .ok (.aload_n 0, 1) := by decide +kernel
theorem dX5_begin_68 : decode cX5_begin 68 = .ok (.iload_n 1, 1) := by decide +kernel
theorem dX5_begin_69 : decode cX5_begin 69 = .ok (.invokevirtual 55, 3) := by decide +kernel
theorem dX5_begin_72 : decode cX5_begin 72 = .ok (.putfield 59, 3) := by decide +kernel
theorem dX5_begin_75 : decode cX5_begin 75 = .ok (.aload_n 0, 1) := by decide +kernel
theorem dX5_begin_76 : decode cX5_begin 76 = .ok (.getfield 59, 3) := by decide +kernel
theorem dX5_begin_79 : decode cX5_begin 79 = .ok (.getfield 76, 3) := by decide +kernel
theorem dX5_begin_82 : decode cX5_begin 82 = .ok (.ireturn, 1) := by decide +kernel
set_option maxRecDepth 20000 in
theorem ggX5_add_X5_isSum : GoodIn wsX5_add wsX5_isSum := goodIn_r _ [6, 7, 8, 5, 9] (by decide +kernel) (by decide +kernel)
set_option maxRecDepth 20000 in
theorem gX5_add_X5_isSum : GoodIn wsX5_add (va_wsS RX5 79 yX5_isSum wsX5_isSum) := goodIn_app (goodIn_of _ (by decide +kernel)) ggX5_add_X5_isSum
set_option maxRecDepth 20000 in
theorem ggX5_add_X5_isOrder : GoodIn wsX5_add wsX5_isOrder := goodIn_r _ [13, 14, 15, 7, 8, 5, 9, 47, 48, 49, 50, 51, 52, 53, 54, 55, 56, 57, 58, 59, 60, 61, 62, 63, 64, 65, 66] (by decide +kernel) (by decide +kernel)
set_option maxRecDepth 20000 in
theorem gX5_add_X5_isOrder : GoodIn wsX5_add (wsV RX5 83 RX5 yX5_isOrder wsX5_isOrder) := goodIn_app (goodIn_of _ (by decide +kernel)) ggX5_add_X5_isOrder
set_option maxRecDepth 20000 in
theorem ggX5_add_X5_isWithin : GoodIn wsX5_add wsX5_isWithin := goodIn_r _ [9] (by decide +kernel) (by decide +kernel)
set_option maxRecDepth 20000 in
theorem gX5_add_X5_isWithin : GoodIn wsX5_add (va_wsS RX5 63 yX5_isWithin wsX5_isWithin) := goodIn_app (goodIn_of _ (by decide +kernel)) ggX5_add_X5_isWithin
set_option maxRecDepth 20000 in
theorem ggX5_add_X5_makeCopyOf : GoodIn wsX5_add wsX5_makeCopyOf := goodIn_r _ [19, 14, 15, 2, 20, 47, 48, 49, 50, 51, 52, 53, 54, 55, 56, 57, 58, 59, 60, 61, 62, 63, 64, 65, 66] (by decide +kernel) (by decide +kernel)
set_option maxRecDepth 20000 in
theorem gX5_add_X5_makeCopyOf : GoodIn wsX5_add (wsV RX5 86 RX5 yX5_makeCopyOf wsX5_makeCopyOf) := goodIn_app (goodIn_of _ (by decide +kernel)) ggX5_add_X5_makeCopyOf
set_option maxRecDepth 20000 in
theorem ggX5_add_X5_settle : GoodIn wsX5_add wsX5_settle := goodIn_r _ [24, 14, 15, 2, 25, 26, 27, 28, 29, 20, 30, 31, 32, 33, 34, 35, 36, 37, 38, 39, 40, 41, 42, 43, 44, 45, 46, 47, 48, 49, 50, 51, 52, 53, 54, 55, 56, 57, 58, 59, 60, 61, 62, 63, 64, 65, 66, 67, 68, 69, 70] (by decide +kernel) (by decide +kernel)
set_option maxRecDepth 20000 in
theorem gX5_add_X5_settle : GoodIn wsX5_add (wsV RX5 90 RX5 yX5_settle wsX5_settle) := goodIn_app (goodIn_of _ (by decide +kernel)) ggX5_add_X5_settle
theorem dX5_add_0 : decode cX5_add 0 = .ok (.iload_n 1, 1) := by decide +kernel
theorem dX5_add_1 : decode cX5_add 1 = .ok (.invokestatic 79, 3) := by decide +kernel
theorem dX5_add_4 : decode cX5_add 4 = .ok (.ifCond .eq 24, 3) := by decide +kernel
theorem dX5_add_7 : decode cX5_add 7 = .ok (.aload_n 0, 1) := by decide +kernel
theorem dX5_add_8 : decode cX5_add 8 = .ok (.iload_n 2, 1) := by decide +kernel
theorem dX5_add_9 : decode cX5_add 9 = .ok (.invokevirtual 83, 3) := by decide +kernel
theorem dX5_add_12 : decode cX5_add 12 = .ok (.ifCond .eq 16, 3) := by decide +kernel
theorem dX5_add_15 : decode cX5_add 15 = .ok (.iload_n 3, 1) := by decide +kernel
theorem dX5_add_16 : decode cX5_add 16 = .ok (.sipush (-999), 3) := by decide +kernel
theorem dX5_add_19 : decode cX5_add 19 = .ok (.sipush 999, 3) := by decide +kernel
theorem dX5_add_22 : decode cX5_add 22 = .ok (.invokestatic 63, 3) := by decide +kernel
theorem dX5_add_25 : decode cX5_add 25 = .ok (.ifCond .ne 6, 3) := by decide +kernel
theorem dX5_add_28 : decode cX5_add 28 = .ok (.ldc 67, 2) := by decide +kernel
theorem dX5_add_30 : decode cX5_add 30 = .ok (.ireturn, 1) := by decide +kernel
theorem dX5_add_31 : decode cX5_add 31 = .ok (.aload_n 0, 1) := by decide +kernel
theorem dX5_add_32 : decode cX5_add 32 = .ok (.iload_n 1, 1) := by decide +kernel
theorem dX5_add_33 : decode cX5_add 33 = .ok (.invokevirtual 86, 3) := by decide +kernel
theorem dX5_add_36 : decode cX5_add 36 = .ok (.aload_n 0, 1) := by decide +kernel
theorem dX5_add_37 : decode cX5_add 37 = .ok (.getfield 20, 3) := by decide +kernel
theorem dX5_add_40 : decode cX5_add 40 = .ok (.iload_n 2, 1) := by decide +kernel
theorem dX5_add_41 : decode cX5_add 41 = .ok (.dup2, 1) := by decide +kernel
theorem dX5_add_42 : decode cX5_add 42 = .ok (.laload, 1) := by decide +kernel
theorem dX5_add_43 : decode cX5_add 43 = .ok (.iload_n 3, 1) := by decide +kernel
theorem dX5_add_44 : decode cX5_add 44 = .ok (.i2l, 1) := by decide +kernel
theorem dX5_add_45 : decode cX5_add 45 = .ok (.ladd, 1) := by decide +kernel
theorem dX5_add_46 : decode cX5_add 46 = .ok (.lastore, 1) := by decide +kernel
theorem dX5_add_47 : decode cX5_add 47 = .ok (.aload_n 0, 1) := by decide +kernel
theorem dX5_add_48 : decode cX5_add 48 = .ok (.iload_n 1, 1) := by decide +kernel
theorem dX5_add_49 : decode cX5_add 49 = .ok (.aload_n 0, 1) := by decide +kernel
theorem dX5_add_50 : decode cX5_add 50 = .ok (.getfield 20, 3) := by decide +kernel
theorem dX5_add_53 : decode cX5_add 53 = .ok (.iload_n 2, 1) := by decide +kernel
theorem dX5_add_54 : decode cX5_add 54 = .ok (.laload, 1) := by decide +kernel
theorem dX5_add_55 : decode cX5_add 55 = .ok (.l2i, 1) := by decide +kernel
theorem dX5_add_56 : decode cX5_add 56 = .ok (.invokevirtual 90, 3) := by decide +kernel
theorem dX5_add_59 : decode cX5_add 59 = .ok (.ireturn, 1) := by decide +kernel
set_option maxRecDepth 20000 in
theorem ggX5_addClass_X5_isSum : GoodIn wsX5_addClass wsX5_isSum := goodIn_r _ [9, 10, 11, 8, 12] (by decide +kernel) (by decide +kernel)
set_option maxRecDepth 20000 in
theorem gX5_addClass_X5_isSum : GoodIn wsX5_addClass (va_wsS RX5 79 yX5_isSum wsX5_isSum) := goodIn_app (goodIn_of _ (by decide +kernel)) ggX5_addClass_X5_isSum
set_option maxRecDepth 20000 in
theorem ggX5_addClass_X5_isSet : GoodIn wsX5_addClass wsX5_isSet := goodIn_r _ [16, 2, 17, 10, 11, 8, 12, 55, 56, 57, 58, 59, 60, 61, 62, 63, 64, 65, 66, 67, 68, 69, 70, 71, 72, 73, 74] (by decide +kernel) (by decide +kernel)
set_option maxRecDepth 20000 in
theorem gX5_addClass_X5_isSet : GoodIn wsX5_addClass (wsV RX5 94 RX5 yX5_isSet wsX5_isSet) := goodIn_app (goodIn_of _ (by decide +kernel)) ggX5_addClass_X5_isSet
set_option maxRecDepth 20000 in
theorem ggX5_addClass_X5_isWithin : GoodIn wsX5_addClass wsX5_isWithin := goodIn_r _ [12] (by decide +kernel) (by decide +kernel)
set_option maxRecDepth 20000 in
theorem gX5_addClass_X5_isWithin : GoodIn wsX5_addClass (va_wsS RX5 63 yX5_isWithin wsX5_isWithin) := goodIn_app (goodIn_of _ (by decide +kernel)) ggX5_addClass_X5_isWithin
set_option maxRecDepth 20000 in
theorem ggX5_addClass_X5_makeCopyOf : GoodIn wsX5_addClass wsX5_makeCopyOf := goodIn_r _ [21, 2, 3, 5, 22, 55, 56, 57, 58, 59, 60, 61, 62, 63, 64, 65, 66, 67, 68, 69, 70, 71, 72, 73, 74] (by decide +kernel) (by decide +kernel)
set_option maxRecDepth 20000 in
theorem gX5_addClass_X5_makeCopyOf : GoodIn wsX5_addClass (wsV RX5 86 RX5 yX5_makeCopyOf wsX5_makeCopyOf) := goodIn_app (goodIn_of _ (by decide +kernel)) ggX5_addClass_X5_makeCopyOf
set_option maxRecDepth 20000 in
theorem ggX5_addClass_X1_isInWideClass : GoodIn wsX5_addClass wsX1_isInWideClass := goodIn_r _ [27, 28, 64, 65, 66, 67, 68, 69, 70, 71, 72, 73, 74] (by decide +kernel) (by decide +kernel)
set_option maxRecDepth 20000 in
theorem gX5_addClass_X1_isInWideClass : GoodIn wsX5_addClass (wsV RX5 97 RX1 yX1_isInWideClass wsX1_isInWideClass) := goodIn_app (goodIn_of _ (by decide +kernel)) ggX5_addClass_X1_isInWideClass
set_option maxRecDepth 20000 in
theorem ggX5_addClass_X5_settle : GoodIn wsX5_addClass wsX5_settle := goodIn_r _ [32, 2, 3, 5, 33, 34, 35, 36, 37, 22, 38, 39, 40, 41, 42, 43, 44, 45, 46, 47, 48, 49, 50, 51, 52, 53, 54, 55, 56, 57, 58, 59, 60, 61, 62, 63, 64, 65, 66, 67, 68, 69, 70, 71, 72, 73, 74, 75, 76, 77, 78] (by decide +kernel) (by decide +kernel)
set_option maxRecDepth 20000 in
theorem gX5_addClass_X5_settle : GoodIn wsX5_addClass (wsV RX5 90 RX5 yX5_settle wsX5_settle) := goodIn_app (goodIn_of _ (by decide +kernel)) ggX5_addClass_X5_settle
theorem dX5_addClass_0 : decode cX5_addClass 0 = .ok (.iload_n 1, 1) := by decide +kernel
theorem dX5_addClass_1 : decode cX5_addClass 1 = .ok (.invokestatic 79, 3) := by decide +kernel
theorem dX5_addClass_4 : decode cX5_addClass 4 = .ok (.ifCond .eq 34, 3) := by decide +kernel
theorem dX5_addClass_7 : decode cX5_addClass 7 = .ok (.aload_n 0, 1) := by decide +kernel
theorem dX5_addClass_8 : decode cX5_addClass 8 = .ok (.iload_n 2, 1) := by decide +kernel
theorem dX5_addClass_9 : decode cX5_addClass 9 = .ok (.invokevirtual 94, 3) := by decide +kernel
theorem dX5_addClass_12 : decode cX5_addClass 12 = .ok (.ifCond .eq 26, 3) := by decide +kernel
theorem dX5_addClass_15 : decode cX5_addClass 15 = .ok (.iload_n 3, 1) := by decide +kernel
theorem dX5_addClass_16 : decode cX5_addClass 16 = .ok (.iconst 0, 1) := by decide +kernel
theorem dX5_addClass_17 : decode cX5_addClass 17 = .ok (.iconst 1, 1) := by decide +kernel
theorem dX5_addClass_18 : decode cX5_addClass 18 = .ok (.invokestatic 63, 3) := by decide +kernel
theorem dX5_addClass_21 : decode cX5_addClass 21 = .ok (.ifCond .eq 17, 3) := by decide +kernel
theorem dX5_addClass_24 : decode cX5_addClass 24 = .ok (.iload 4, 2) := by decide +kernel
theorem dX5_addClass_26 : decode cX5_addClass 26 = .ok (.sipush (-999), 3) := by decide +kernel
theorem dX5_addClass_29 : decode cX5_addClass 29 = .ok (.sipush 999, 3) := by decide +kernel
theorem dX5_addClass_32 : decode cX5_addClass 32 = .ok (.invokestatic 63, 3) := by decide +kernel
theorem dX5_addClass_35 : decode cX5_addClass 35 = .ok (.ifCond .ne 6, 3) := by decide +kernel
theorem dX5_addClass_38 : decode cX5_addClass 38 = .ok (.ldc 67, 2) := by decide +kernel
theorem dX5_addClass_40 : decode cX5_addClass 40 = .ok (.ireturn, 1) := by decide +kernel
theorem dX5_addClass_41 : decode cX5_addClass 41 = .ok (.aload_n 0, 1) := by decide +kernel
theorem dX5_addClass_42 : decode cX5_addClass 42 = .ok (.iload_n 1, 1) := by decide +kernel
theorem dX5_addClass_43 : decode cX5_addClass 43 = .ok (.invokevirtual 86, 3) := by decide +kernel
theorem dX5_addClass_46 : decode cX5_addClass 46 = .ok (.iconst 0, 1) := by decide +kernel
theorem dX5_addClass_47 : decode cX5_addClass 47 = .ok (.istore 5, 2) := by decide +kernel
theorem dX5_addClass_49 : decode cX5_addClass 49 = .ok (.iconst 0, 1) := by decide +kernel
theorem dX5_addClass_50 : decode cX5_addClass 50 = .ok (.istore 6, 2) := by decide +kernel
theorem dX5_addClass_52 : decode cX5_addClass 52 = .ok (.iload 6, 2) := by decide +kernel
theorem dX5_addClass_54 : decode cX5_addClass 54 = .ok (.aload_n 0, 1) := by decide +kernel
theorem dX5_addClass_55 : decode cX5_addClass 55 = .ok (.getfield 59, 3) := by decide +kernel
theorem dX5_addClass_58 : decode cX5_addClass 58 = .ok (.getfield 76, 3) := by decide +kernel
theorem dX5_addClass_61 : decode cX5_addClass 61 = .ok (.if_icmp .ge 60, 3) := by decide +kernel
theorem dX5_addClass_64 : decode cX5_addClass 64 = .ok (.iload_n 3, 1) := by decide +kernel
theorem dX5_addClass_65 : decode cX5_addClass 65 = .ok (.iconst 1, 1) := by decide +kernel
theorem dX5_addClass_66 : decode cX5_addClass 66 = .ok (.if_icmp .ne 19, 3) := by decide +kernel
theorem dX5_addClass_69 : decode cX5_addClass 69 = .ok (.aload_n 0, 1) := by decide +kernel
theorem dX5_addClass_70 : decode cX5_addClass 70 = .ok (.getfield 59, 3) := by decide +kernel
theorem dX5_addClass_73 : decode cX5_addClass 73 = .ok (.iload 6, 2) := by decide +kernel
theorem dX5_addClass_75 : decode cX5_addClass 75 = .ok (.iload_n 2, 1) := by decide +kernel
theorem dX5_addClass_76 : decode cX5_addClass 76 = .ok (.invokevirtual 97, 3) := by decide +kernel
theorem dX5_addClass_79 : decode cX5_addClass 79 = .ok (.ifCond .eq 36, 3) := by decide +kernel
theorem dX5_addClass_82 : decode cX5_addClass 82 = .ok (.goto 17, 3) := by decide +kernel
theorem dX5_addClass_85 : decode cX5_addClass 85 = .ok (.aload_n 0, 1) := by decide +kernel
theorem dX5_addClass_86 : decode cX5_addClass 86 = .ok (.getfield 59, 3) := by decide +kernel
theorem dX5_addClass_89 : decode cX5_addClass 89 = .ok (.getfield 101, 3) := by decide +kernel
theorem dX5_addClass_92 : decode cX5_addClass 92 = .ok (.iload 6, 2) := by decide +kernel
theorem dX5_addClass_94 : decode cX5_addClass 94 = .ok (.iaload, 1) := by decide +kernel
theorem dX5_addClass_95 : decode cX5_addClass 95 = .ok (.iload_n 2, 1) := by decide +kernel
theorem dX5_addClass_96 : decode cX5_addClass 96 = .ok (.if_icmp .ne 19, 3) := by decide +kernel
theorem dX5_addClass_99 : decode cX5_addClass 99 = .ok (.aload_n 0, 1) := by decide +kernel
theorem dX5_addClass_100 : decode cX5_addClass 100 = .ok (.getfield 20, 3) := by decide +kernel
theorem dX5_addClass_103 : decode cX5_addClass 103 = .ok (.iload 6, 2) := by decide +kernel
theorem dX5_addClass_105 : decode cX5_addClass 105 = .ok (.dup2, 1) := by decide +kernel
theorem dX5_addClass_106 : decode cX5_addClass 106 = .ok (.laload, 1) := by decide +kernel
theorem dX5_addClass_107 : decode cX5_addClass 107 = .ok (.iload 4, 2) := by decide +kernel
theorem dX5_addClass_109 : decode cX5_addClass 109 = .ok (.i2l, 1) := by decide +kernel
theorem dX5_addClass_110 : decode cX5_addClass 110 = .ok (.ladd, 1) := by decide +kernel
theorem dX5_addClass_111 : decode cX5_addClass 111 = .ok (.lastore, 1) := by decide +kernel
theorem dX5_addClass_112 : decode cX5_addClass 112 = .ok (.iinc 5 1, 3) := by decide +kernel
theorem dX5_addClass_115 : decode cX5_addClass 115 = .ok (.iinc 6 1, 3) := by decide +kernel
theorem dX5_addClass_118 : decode cX5_addClass 118 = .ok (.goto (-66), 3) := by decide +kernel
theorem dX5_addClass_121 : decode cX5_addClass 121 = .ok (.aload_n 0, 1) := by decide +kernel
theorem dX5_addClass_122 : decode cX5_addClass 122 = .ok (.iload_n 1, 1) := by decide +kernel
theorem dX5_addClass_123 : decode cX5_addClass 123 = .ok (.iload 5, 2) := by decide +kernel
theorem dX5_addClass_125 : decode cX5_addClass 125 = .ok (.invokevirtual 90, 3) := by decide +kernel
theorem dX5_addClass_128 : decode cX5_addClass 128 = .ok (.ireturn, 1) := by decide +kernel
set_option maxRecDepth 20000 in
theorem ggX5_clear_X5_isSum : GoodIn wsX5_clear wsX5_isSum := goodIn_r _ [5, 6, 7, 4, 8] (by decide +kernel) (by decide +kernel)
set_option maxRecDepth 20000 in
theorem gX5_clear_X5_isSum : GoodIn wsX5_clear (va_wsS RX5 79 yX5_isSum wsX5_isSum) := goodIn_app (goodIn_of _ (by decide +kernel)) ggX5_clear_X5_isSum
set_option maxRecDepth 20000 in
theorem ggX5_clear_X5_termsIn : GoodIn wsX5_clear wsX5_termsIn := goodIn_r _ [12, 13, 14, 15, 47, 48, 49, 50, 51, 52, 53, 54, 55, 56, 57, 58, 59, 60, 61, 62, 63, 64, 65, 66] (by decide +kernel) (by decide +kernel)
set_option maxRecDepth 20000 in
theorem gX5_clear_X5_termsIn : GoodIn wsX5_clear (wsV RX5 105 RX5 yX5_termsIn wsX5_termsIn) := goodIn_app (goodIn_of _ (by decide +kernel)) ggX5_clear_X5_termsIn
set_option maxRecDepth 20000 in
theorem ggX5_clear_X5_makeZeros : GoodIn wsX5_clear wsX5_makeZeros := goodIn_r _ [19, 13, 14, 20, 47, 48, 49, 50, 51, 52, 53, 54, 55, 56, 57, 58, 59, 60, 61, 62, 63, 64, 65, 66] (by decide +kernel) (by decide +kernel)
set_option maxRecDepth 20000 in
theorem gX5_clear_X5_makeZeros : GoodIn wsX5_clear (wsV RX5 109 RX5 yX5_makeZeros wsX5_makeZeros) := goodIn_app (goodIn_of _ (by decide +kernel)) ggX5_clear_X5_makeZeros
set_option maxRecDepth 20000 in
theorem ggX5_clear_X5_settle : GoodIn wsX5_clear wsX5_settle := goodIn_r _ [24, 13, 14, 20, 25, 26, 27, 28, 29, 15, 30, 31, 32, 33, 34, 35, 36, 37, 38, 39, 40, 41, 42, 43, 44, 45, 46, 47, 48, 49, 50, 51, 52, 53, 54, 55, 56, 57, 58, 59, 60, 61, 62, 63, 64, 65, 66, 67, 68, 69, 70] (by decide +kernel) (by decide +kernel)
set_option maxRecDepth 20000 in
theorem gX5_clear_X5_settle : GoodIn wsX5_clear (wsV RX5 90 RX5 yX5_settle wsX5_settle) := goodIn_app (goodIn_of _ (by decide +kernel)) ggX5_clear_X5_settle
theorem dX5_clear_0 : decode cX5_clear 0 = .ok (.iload_n 1, 1) := by decide +kernel
theorem dX5_clear_1 : decode cX5_clear 1 = .ok (.invokestatic 79, 3) := by decide +kernel
theorem dX5_clear_4 : decode cX5_clear 4 = .ok (.ifCond .ne 6, 3) := by decide +kernel
theorem dX5_clear_7 : decode cX5_clear 7 = .ok (.ldc 67, 2) := by decide +kernel
theorem dX5_clear_9 : decode cX5_clear 9 = .ok (.ireturn, 1) := by decide +kernel
theorem dX5_clear_10 : decode cX5_clear 10 = .ok (.aload_n 0, 1) := by decide +kernel
theorem dX5_clear_11 : decode cX5_clear 11 = .ok (.iload_n 1, 1) := by decide +kernel
theorem dX5_clear_12 : decode cX5_clear 12 = .ok (.invokevirtual 105, 3) := by decide +kernel
theorem dX5_clear_15 : decode cX5_clear 15 = .ok (.istore_n 2, 1) := by decide +kernel
theorem dX5_clear_16 : decode cX5_clear 16 = .ok (.aload_n 0, 1) := by decide +kernel
theorem dX5_clear_17 : decode cX5_clear 17 = .ok (.invokevirtual 109, 3) := by decide +kernel
theorem dX5_clear_20 : decode cX5_clear 20 = .ok (.aload_n 0, 1) := by decide +kernel
theorem dX5_clear_21 : decode cX5_clear 21 = .ok (.iload_n 1, 1) := by decide +kernel
theorem dX5_clear_22 : decode cX5_clear 22 = .ok (.iload_n 2, 1) := by decide +kernel
theorem dX5_clear_23 : decode cX5_clear 23 = .ok (.invokevirtual 90, 3) := by decide +kernel
