theorem dX5_makeProduct_35 : decode cX5_makeProduct 35 = .ok (.if_icmp .ge 37, 3) := by decide +kernel
theorem dX5_makeProduct_38 : decode cX5_makeProduct 38 = .ok (.aload_n 0, 1) := by decide +kernel
theorem dX5_makeProduct_39 : decode cX5_makeProduct 39 = .ok (.getfield 20, 3) := by decide +kernel
theorem dX5_makeProduct_42 : decode cX5_makeProduct 42 = .ok (.aload_n 0, 1) := by decide +kernel
theorem dX5_makeProduct_43 : decode cX5_makeProduct 43 = .ok (.getfield 59, 3) := by decide +kernel
theorem dX5_makeProduct_46 : decode cX5_makeProduct 46 = .ok (.iload_n 3, 1) := by decide +kernel
theorem dX5_makeProduct_47 : decode cX5_makeProduct 47 = .ok (.iload 4, 2) := by decide +kernel
theorem dX5_makeProduct_49 : decode cX5_makeProduct 49 = .ok (.invokevirtual 151, 3) := by decide +kernel
theorem dX5_makeProduct_52 : decode cX5_makeProduct 52 = .ok (.dup2, 1) := by decide +kernel
theorem dX5_makeProduct_53 : decode cX5_makeProduct 53 = .ok (.laload, 1) := by decide +kernel
theorem dX5_makeProduct_54 : decode cX5_makeProduct 54 = .ok (.aload_n 1, 1) := by decide +kernel
theorem dX5_makeProduct_55 : decode cX5_makeProduct 55 = .ok (.iload_n 3, 1) := by decide +kernel
theorem dX5_makeProduct_56 : decode cX5_makeProduct 56 = .ok (.iaload, 1) := by decide +kernel
theorem dX5_makeProduct_57 : decode cX5_makeProduct 57 = .ok (.i2l, 1) := by decide +kernel
theorem dX5_makeProduct_58 : decode cX5_makeProduct 58 = .ok (.aload_n 2, 1) := by decide +kernel
theorem dX5_makeProduct_59 : decode cX5_makeProduct 59 = .ok (.iload 4, 2) := by decide +kernel
theorem dX5_makeProduct_61 : decode cX5_makeProduct 61 = .ok (.iaload, 1) := by decide +kernel
theorem dX5_makeProduct_62 : decode cX5_makeProduct 62 = .ok (.i2l, 1) := by decide +kernel
theorem dX5_makeProduct_63 : decode cX5_makeProduct 63 = .ok (.lmul, 1) := by decide +kernel
theorem dX5_makeProduct_64 : decode cX5_makeProduct 64 = .ok (.ladd, 1) := by decide +kernel
theorem dX5_makeProduct_65 : decode cX5_makeProduct 65 = .ok (.lastore, 1) := by decide +kernel
theorem dX5_makeProduct_66 : decode cX5_makeProduct 66 = .ok (.iinc 4 1, 3) := by decide +kernel
theorem dX5_makeProduct_69 : decode cX5_makeProduct 69 = .ok (.goto (-43), 3) := by decide +kernel
theorem dX5_makeProduct_72 : decode cX5_makeProduct 72 = .ok (.iinc 3 1, 3) := by decide +kernel
theorem dX5_makeProduct_75 : decode cX5_makeProduct 75 = .ok (.goto (-69), 3) := by decide +kernel
theorem dX5_makeProduct_78 : decode cX5_makeProduct 78 = .ok (.return_, 1) := by decide +kernel
set_option maxRecDepth 20000 in
theorem ggX5_settle_X0_keep : GoodIn wsX5_settle wsX0_keep := goodIn_r _ [14, 15, 16, 17, 18, 19, 20, 21, 22, 23, 24, 25, 26, 47, 48, 49, 50] (by decide +kernel) (by decide +kernel)
set_option maxRecDepth 20000 in
theorem gX5_settle_X0_keep : GoodIn wsX5_settle (wsV RX5 72 RX0 yX0_keep wsX0_keep) := goodIn_app (goodIn_of _ (by decide +kernel)) ggX5_settle_X0_keep
theorem dX5_settle_0 : decode cX5_settle 0 = .ok (.iconst 0, 1) := by decide +kernel
theorem dX5_settle_1 : decode cX5_settle 1 = .ok (.istore_n 3, 1) := by decide +kernel
theorem dX5_settle_2 : decode cX5_settle 2 = .ok (.iload_n 3, 1) := by decide +kernel
theorem dX5_settle_3 : decode cX5_settle 3 = .ok (.aload_n 0, 1) := by decide +kernel
theorem dX5_settle_4 : decode cX5_settle 4 = .ok (.getfield 59, 3) := by decide +kernel
theorem dX5_settle_7 : decode cX5_settle 7 = .ok (.getfield 76, 3) := by decide +kernel
theorem dX5_settle_10 : decode cX5_settle 10 = .ok (.if_icmp .ge 38, 3) := by decide +kernel
theorem dX5_settle_13 : decode cX5_settle 13 = .ok (.aload_n 0, 1) := by decide +kernel
theorem dX5_settle_14 : decode cX5_settle 14 = .ok (.getfield 20, 3) := by decide +kernel
theorem dX5_settle_17 : decode cX5_settle 17 = .ok (.iload_n 3, 1) := by decide +kernel
theorem dX5_settle_18 : decode cX5_settle 18 = .ok (.laload, 1) := by decide +kernel
theorem dX5_settle_19 : decode cX5_settle 19 = .ok (.ldc2_w 214, 3) := by decide +kernel
theorem dX5_settle_22 : decode cX5_settle 22 = .ok (.lcmp, 1) := by decide +kernel
theorem dX5_settle_23 : decode cX5_settle 23 = .ok (.ifCond .lt 16, 3) := by decide +kernel
theorem dX5_settle_26 : decode cX5_settle 26 = .ok (.aload_n 0, 1) := by decide +kernel
theorem dX5_settle_27 : decode cX5_settle 27 = .ok (.getfield 20, 3) := by decide +kernel
theorem dX5_settle_30 : decode cX5_settle 30 = .ok (.iload_n 3, 1) := by decide +kernel
theorem dX5_settle_31 : decode cX5_settle 31 = .ok (.laload, 1) := by decide +kernel
theorem dX5_settle_32 : decode cX5_settle 32 = .ok (.ldc2_w 216, 3) := by decide +kernel
theorem dX5_settle_35 : decode cX5_settle 35 = .ok (.lcmp, 1) := by decide +kernel
theorem dX5_settle_36 : decode cX5_settle 36 = .ok (.ifCond .le 6, 3) := by decide +kernel
theorem dX5_settle_39 : decode cX5_settle 39 = .ok (.ldc 200, 2) := by decide +kernel
theorem dX5_settle_41 : decode cX5_settle 41 = .ok (.ireturn, 1) := by decide +kernel
theorem dX5_settle_42 : decode cX5_settle 42 = .ok (.iinc 3 1, 3) := by decide +kernel
theorem dX5_settle_45 : decode cX5_settle 45 = .ok (.goto (-43), 3) := by decide +kernel
theorem dX5_settle_48 : decode cX5_settle 48 = .ok (.aload_n 0, 1) := by decide +kernel
theorem dX5_settle_49 : decode cX5_settle 49 = .ok (.getfield 30, 3) := by decide +kernel
theorem dX5_settle_52 : decode cX5_settle 52 = .ok (.aload_n 0, 1) := by decide +kernel
theorem dX5_settle_53 : decode cX5_settle 53 = .ok (.getfield 59, 3) := by decide +kernel
theorem dX5_settle_56 : decode cX5_settle 56 = .ok (.getfield 68, 3) := by decide +kernel
theorem dX5_settle_59 : decode cX5_settle 59 = .ok (.aload_n 0, 1) := by decide +kernel
theorem dX5_settle_60 : decode cX5_settle 60 = .ok (.getfield 17, 3) := by decide +kernel
theorem dX5_settle_63 : decode cX5_settle 63 = .ok (.invokevirtual 72, 3) := by decide +kernel
theorem dX5_settle_66 : decode cX5_settle 66 = .ok (.iconst 0, 1) := by decide +kernel
theorem dX5_settle_67 : decode cX5_settle 67 = .ok (.istore_n 3, 1) := by decide +kernel
theorem dX5_settle_68 : decode cX5_settle 68 = .ok (.iload_n 3, 1) := by decide +kernel
theorem dX5_settle_69 : decode cX5_settle 69 = .ok (.aload_n 0, 1) := by decide +kernel
theorem dX5_settle_70 : decode cX5_settle 70 = .ok (.getfield 59, 3) := by decide +kernel
theorem dX5_settle_73 : decode cX5_settle 73 = .ok (.getfield 76, 3) := by decide +kernel
theorem dX5_settle_76 : decode cX5_settle 76 = .ok (.if_icmp .ge 24, 3) := by decide +kernel
theorem dX5_settle_79 : decode cX5_settle 79 = .ok (.aload_n 0, 1) := by decide +kernel
theorem dX5_settle_80 : decode cX5_settle 80 = .ok (.getfield 17, 3) := by decide +kernel
theorem dX5_settle_83 : decode cX5_settle 83 = .ok (.iload_n 1, 1) := by decide +kernel
theorem dX5_settle_84 : decode cX5_settle 84 = .ok (.aaload, 1) := by decide +kernel
theorem dX5_settle_85 : decode cX5_settle 85 = .ok (.iload_n 3, 1) := by decide +kernel
theorem dX5_settle_86 : decode cX5_settle 86 = .ok (.aload_n 0, 1) := by decide +kernel
theorem dX5_settle_87 : decode cX5_settle 87 = .ok (.getfield 20, 3) := by decide +kernel
theorem dX5_settle_90 : decode cX5_settle 90 = .ok (.iload_n 3, 1) := by decide +kernel
theorem dX5_settle_91 : decode cX5_settle 91 = .ok (.laload, 1) := by decide +kernel
theorem dX5_settle_92 : decode cX5_settle 92 = .ok (.l2i, 1) := by decide +kernel
theorem dX5_settle_93 : decode cX5_settle 93 = .ok (.iastore, 1) := by decide +kernel
theorem dX5_settle_94 : decode cX5_settle 94 = .ok (.iinc 3 1, 3) := by decide +kernel
theorem dX5_settle_97 : decode cX5_settle 97 = .ok (.goto (-29), 3) := by decide +kernel
theorem dX5_settle_100 : decode cX5_settle 100 = .ok (.iload_n 2, 1) := by decide +kernel
theorem dX5_settle_101 : decode cX5_settle 101 = .ok (.ireturn, 1) := by decide +kernel
theorem dX5_termsMade_0 : decode cX5_termsMade 0 = .ok (.iconst 0, 1) := by decide +kernel
theorem dX5_termsMade_1 : decode cX5_termsMade 1 = .ok (.istore_n 1, 1) := by decide +kernel
theorem dX5_termsMade_2 : decode cX5_termsMade 2 = .ok (.iconst 0, 1) := by decide +kernel
theorem dX5_termsMade_3 : decode cX5_termsMade 3 = .ok (.istore_n 2, 1) := by decide +kernel
theorem dX5_termsMade_4 : decode cX5_termsMade 4 = .ok (.iload_n 2, 1) := by decide +kernel
theorem dX5_termsMade_5 : decode cX5_termsMade 5 = .ok (.aload_n 0, 1) := by decide +kernel
theorem dX5_termsMade_6 : decode cX5_termsMade 6 = .ok (.getfield 59, 3) := by decide +kernel
theorem dX5_termsMade_9 : decode cX5_termsMade 9 = .ok (.getfield 76, 3) := by decide +kernel
theorem dX5_termsMade_12 : decode cX5_termsMade 12 = .ok (.if_icmp .ge 23, 3) := by decide +kernel
theorem dX5_termsMade_15 : decode cX5_termsMade 15 = .ok (.aload_n 0, 1) := by decide +kernel
theorem dX5_termsMade_16 : decode cX5_termsMade 16 = .ok (.getfield 20, 3) := by decide +kernel
theorem dX5_termsMade_19 : decode cX5_termsMade 19 = .ok (.iload_n 2, 1) := by decide +kernel
theorem dX5_termsMade_20 : decode cX5_termsMade 20 = .ok (.laload, 1) := by decide +kernel
theorem dX5_termsMade_21 : decode cX5_termsMade 21 = .ok (.lconst 0, 1) := by decide +kernel
theorem dX5_termsMade_22 : decode cX5_termsMade 22 = .ok (.lcmp, 1) := by decide +kernel
theorem dX5_termsMade_23 : decode cX5_termsMade 23 = .ok (.ifCond .eq 6, 3) := by decide +kernel
theorem dX5_termsMade_26 : decode cX5_termsMade 26 = .ok (.iinc 1 1, 3) := by decide +kernel
theorem dX5_termsMade_29 : decode cX5_termsMade 29 = .ok (.iinc 2 1, 3) := by decide +kernel
theorem dX5_termsMade_32 : decode cX5_termsMade 32 = .ok (.goto (-28), 3) := by decide +kernel
theorem dX5_termsMade_35 : decode cX5_termsMade 35 = .ok (.iload_n 1, 1) := by decide +kernel
theorem dX5_termsMade_36 : decode cX5_termsMade 36 = .ok (.ireturn, 1) := by decide +kernel
theorem dX5_termsIn_0 : decode cX5_termsIn 0 = .ok (.iconst 0, 1) := by decide +kernel
theorem dX5_termsIn_1 : decode cX5_termsIn 1 = .ok (.istore_n 2, 1) := by decide +kernel
theorem dX5_termsIn_2 : decode cX5_termsIn 2 = .ok (.iconst 0, 1) := by decide +kernel
theorem dX5_termsIn_3 : decode cX5_termsIn 3 = .ok (.istore_n 3, 1) := by decide +kernel
theorem dX5_termsIn_4 : decode cX5_termsIn 4 = .ok (.iload_n 3, 1) := by decide +kernel
theorem dX5_termsIn_5 : decode cX5_termsIn 5 = .ok (.aload_n 0, 1) := by decide +kernel
theorem dX5_termsIn_6 : decode cX5_termsIn 6 = .ok (.getfield 59, 3) := by decide +kernel
theorem dX5_termsIn_9 : decode cX5_termsIn 9 = .ok (.getfield 76, 3) := by decide +kernel
theorem dX5_termsIn_12 : decode cX5_termsIn 12 = .ok (.if_icmp .ge 23, 3) := by decide +kernel
theorem dX5_termsIn_15 : decode cX5_termsIn 15 = .ok (.aload_n 0, 1) := by decide +kernel
theorem dX5_termsIn_16 : decode cX5_termsIn 16 = .ok (.getfield 17, 3) := by decide +kernel
theorem dX5_termsIn_19 : decode cX5_termsIn 19 = .ok (.iload_n 1, 1) := by decide +kernel
theorem dX5_termsIn_20 : decode cX5_termsIn 20 = .ok (.aaload, 1) := by decide +kernel
theorem dX5_termsIn_21 : decode cX5_termsIn 21 = .ok (.iload_n 3, 1) := by decide +kernel
theorem dX5_termsIn_22 : decode cX5_termsIn 22 = .ok (.iaload, 1) := by decide +kernel
theorem dX5_termsIn_23 : decode cX5_termsIn 23 = .ok (.ifCond .eq 6, 3) := by decide +kernel
theorem dX5_termsIn_26 : decode cX5_termsIn 26 = .ok (.iinc 2 1, 3) := by decide +kernel
theorem dX5_termsIn_29 : decode cX5_termsIn 29 = .ok (.iinc 3 1, 3) := by decide +kernel
theorem dX5_termsIn_32 : decode cX5_termsIn 32 = .ok (.goto (-28), 3) := by decide +kernel
theorem dX5_termsIn_35 : decode cX5_termsIn 35 = .ok (.iload_n 2, 1) := by decide +kernel
theorem dX5_termsIn_36 : decode cX5_termsIn 36 = .ok (.ireturn, 1) := by decide +kernel
theorem dX5_factorsAddedUp_0 : decode cX5_factorsAddedUp 0 = .ok (.iconst 0, 1) := by decide +kernel
theorem dX5_factorsAddedUp_1 : decode cX5_factorsAddedUp 1 = .ok (.istore_n 2, 1) := by decide +kernel
theorem dX5_factorsAddedUp_2 : decode cX5_factorsAddedUp 2 = .ok (.iconst 0, 1) := by decide +kernel
theorem dX5_factorsAddedUp_3 : decode cX5_factorsAddedUp 3 = .ok (.istore_n 3, 1) := by decide +kernel
theorem dX5_factorsAddedUp_4 : decode cX5_factorsAddedUp 4 = .ok (.iload_n 3, 1) := by decide +kernel
theorem dX5_factorsAddedUp_5 : decode cX5_factorsAddedUp 5 = .ok (.aload_n 0, 1) := by decide +kernel
theorem dX5_factorsAddedUp_6 : decode cX5_factorsAddedUp 6 = .ok (.getfield 59, 3) := by decide +kernel
theorem dX5_factorsAddedUp_9 : decode cX5_factorsAddedUp 9 = .ok (.getfield 76, 3) := by decide +kernel
theorem dX5_factorsAddedUp_12 : decode cX5_factorsAddedUp 12 = .ok (.if_icmp .ge 20, 3) := by decide +kernel
theorem dX5_factorsAddedUp_15 : decode cX5_factorsAddedUp 15 = .ok (.iload_n 2, 1) := by decide +kernel
theorem dX5_factorsAddedUp_16 : decode cX5_factorsAddedUp 16 = .ok (.aload_n 0, 1) := by decide +kernel
theorem dX5_factorsAddedUp_17 : decode cX5_factorsAddedUp 17 = .ok (.getfield 17, 3) := by decide +kernel
theorem dX5_factorsAddedUp_20 : decode cX5_factorsAddedUp 20 = .ok (.iload_n 1, 1) := by decide +kernel
theorem dX5_factorsAddedUp_21 : decode cX5_factorsAddedUp 21 = .ok (.aaload, 1) := by decide +kernel
theorem dX5_factorsAddedUp_22 : decode cX5_factorsAddedUp 22 = .ok (.iload_n 3, 1) := by decide +kernel
theorem dX5_factorsAddedUp_23 : decode cX5_factorsAddedUp 23 = .ok (.iaload, 1) := by decide +kernel
theorem dX5_factorsAddedUp_24 : decode cX5_factorsAddedUp 24 = .ok (.iadd, 1) := by decide +kernel
theorem dX5_factorsAddedUp_25 : decode cX5_factorsAddedUp 25 = .ok (.istore_n 2, 1) := by decide +kernel
theorem dX5_factorsAddedUp_26 : decode cX5_factorsAddedUp 26 = .ok (.iinc 3 1, 3) := by decide +kernel
theorem dX5_factorsAddedUp_29 : decode cX5_factorsAddedUp 29 = .ok (.goto (-25), 3) := by decide +kernel
theorem dX5_factorsAddedUp_32 : decode cX5_factorsAddedUp 32 = .ok (.iload_n 2, 1) := by decide +kernel
theorem dX5_factorsAddedUp_33 : decode cX5_factorsAddedUp 33 = .ok (.ireturn, 1) := by decide +kernel
theorem dX5_greatestIn_0 : decode cX5_greatestIn 0 = .ok (.aload_n 0, 1) := by decide +kernel
theorem dX5_greatestIn_1 : decode cX5_greatestIn 1 = .ok (.getfield 17, 3) := by decide +kernel
theorem dX5_greatestIn_4 : decode cX5_greatestIn 4 = .ok (.iload_n 1, 1) := by decide +kernel
theorem dX5_greatestIn_5 : decode cX5_greatestIn 5 = .ok (.aaload, 1) := by decide +kernel
theorem dX5_greatestIn_6 : decode cX5_greatestIn 6 = .ok (.iconst 0, 1) := by decide +kernel
theorem dX5_greatestIn_7 : decode cX5_greatestIn 7 = .ok (.iaload, 1) := by decide +kernel
theorem dX5_greatestIn_8 : decode cX5_greatestIn 8 = .ok (.istore_n 2, 1) := by decide +kernel
theorem dX5_greatestIn_9 : decode cX5_greatestIn 9 = .ok (.iconst 1, 1) := by decide +kernel
theorem dX5_greatestIn_10 : decode cX5_greatestIn 10 = .ok (.istore_n 3, 1) := by decide +kernel
theorem dX5_greatestIn_11 : decode cX5_greatestIn 11 = .ok (.iload_n 3, 1) := by decide +kernel
theorem dX5_greatestIn_12 : decode cX5_greatestIn 12 = .ok (.aload_n 0, 1) := by decide +kernel
theorem dX5_greatestIn_13 : decode cX5_greatestIn 13 = .ok (.getfield 59, 3) := by decide +kernel
theorem dX5_greatestIn_16 : decode cX5_greatestIn 16 = .ok (.getfield 76, 3) := by decide +kernel
theorem dX5_greatestIn_19 : decode cX5_greatestIn 19 = .ok (.if_icmp .ge 22, 3) := by decide +kernel
theorem dX5_greatestIn_22 : decode cX5_greatestIn 22 = .ok (.iload_n 2, 1) := by decide +kernel
theorem dX5_greatestIn_23 : decode cX5_greatestIn 23 = .ok (.aload_n 0, 1) := by decide +kernel
theorem dX5_greatestIn_24 : decode cX5_greatestIn 24 = .ok (.getfield 17, 3) := by decide +kernel
theorem dX5_greatestIn_27 : decode cX5_greatestIn 27 = .ok (.iload_n 1, 1) := by decide +kernel
theorem dX5_greatestIn_28 : decode cX5_greatestIn 28 = .ok (.aaload, 1) := by decide +kernel
theorem dX5_greatestIn_29 : decode cX5_greatestIn 29 = .ok (.iload_n 3, 1) := by decide +kernel
theorem dX5_greatestIn_30 : decode cX5_greatestIn 30 = .ok (.iaload, 1) := by decide +kernel
theorem dX5_greatestIn_31 : decode cX5_greatestIn 31 = .ok (.invokestatic 218, 3) := by decide +kernel
theorem dX5_greatestIn_34 : decode cX5_greatestIn 34 = .ok (.istore_n 2, 1) := by decide +kernel
theorem dX5_greatestIn_35 : decode cX5_greatestIn 35 = .ok (.iinc 3 1, 3) := by decide +kernel
theorem dX5_greatestIn_38 : decode cX5_greatestIn 38 = .ok (.goto (-27), 3) := by decide +kernel
theorem dX5_greatestIn_41 : decode cX5_greatestIn 41 = .ok (.iload_n 2, 1) := by decide +kernel
theorem dX5_greatestIn_42 : decode cX5_greatestIn 42 = .ok (.ireturn, 1) := by decide +kernel
theorem dX5_leastIn_0 : decode cX5_leastIn 0 = .ok (.aload_n 0, 1) := by decide +kernel
theorem dX5_leastIn_1 : decode cX5_leastIn 1 = .ok (.getfield 17, 3) := by decide +kernel
theorem dX5_leastIn_4 : decode cX5_leastIn 4 = .ok (.iload_n 1, 1) := by decide +kernel
theorem dX5_leastIn_5 : decode cX5_leastIn 5 = .ok (.aaload, 1) := by decide +kernel
theorem dX5_leastIn_6 : decode cX5_leastIn 6 = .ok (.iconst 0, 1) := by decide +kernel
theorem dX5_leastIn_7 : decode cX5_leastIn 7 = .ok (.iaload, 1) := by decide +kernel
theorem dX5_leastIn_8 : decode cX5_leastIn 8 = .ok (.istore_n 2, 1) := by decide +kernel
theorem dX5_leastIn_9 : decode cX5_leastIn 9 = .ok (.iconst 1, 1) := by decide +kernel
theorem dX5_leastIn_10 : decode cX5_leastIn 10 = .ok (.istore_n 3, 1) := by decide +kernel
theorem dX5_leastIn_11 : decode cX5_leastIn 11 = .ok (.iload_n 3, 1) := by decide +kernel
theorem dX5_leastIn_12 : decode cX5_leastIn 12 = .ok (.aload_n 0, 1) := by decide +kernel
theorem dX5_leastIn_13 : decode cX5_leastIn 13 = .ok (.getfield 59, 3) := by decide +kernel
theorem dX5_leastIn_16 : decode cX5_leastIn 16 = .ok (.getfield 76, 3) := by decide +kernel
theorem dX5_leastIn_19 : decode cX5_leastIn 19 = .ok (.if_icmp .ge 22, 3) := by decide +kernel
theorem dX5_leastIn_22 : decode cX5_leastIn 22 = .ok (.iload_n 2, 1) := by decide +kernel
theorem dX5_leastIn_23 : decode cX5_leastIn 23 = .ok (.aload_n 0, 1) := by decide +kernel
theorem dX5_leastIn_24 : decode cX5_leastIn 24 = .ok (.getfield 17, 3) := by decide +kernel
theorem dX5_leastIn_27 : decode cX5_leastIn 27 = .ok (.iload_n 1, 1) := by decide +kernel
theorem dX5_leastIn_28 : decode cX5_leastIn 28 = .ok (.aaload, 1) := by decide +kernel
theorem dX5_leastIn_29 : decode cX5_leastIn 29 = .ok (.iload_n 3, 1) := by decide +kernel
theorem dX5_leastIn_30 : decode cX5_leastIn 30 = .ok (.iaload, 1) := by decide +kernel
theorem dX5_leastIn_31 : decode cX5_leastIn 31 = .ok (.invokestatic 223, 3) := by decide +kernel
theorem dX5_leastIn_34 : decode cX5_leastIn 34 = .ok (.istore_n 2, 1) := by decide +kernel
theorem dX5_leastIn_35 : decode cX5_leastIn 35 = .ok (.iinc 3 1, 3) := by decide +kernel
theorem dX5_leastIn_38 : decode cX5_leastIn 38 = .ok (.goto (-27), 3) := by decide +kernel
theorem dX5_leastIn_41 : decode cX5_leastIn 41 = .ok (.iload_n 2, 1) := by decide +kernel
theorem dX5_leastIn_42 : decode cX5_leastIn 42 = .ok (.ireturn, 1) := by decide +kernel
theorem dX5_goesByDescents_0 : decode cX5_goesByDescents 0 = .ok (.iconst 0, 1) := by decide +kernel
theorem dX5_goesByDescents_1 : decode cX5_goesByDescents 1 = .ok (.istore_n 2, 1) := by decide +kernel
theorem dX5_goesByDescents_2 : decode cX5_goesByDescents 2 = .ok (.iload_n 2, 1) := by decide +kernel
theorem dX5_goesByDescents_3 : decode cX5_goesByDescents 3 = .ok (.aload_n 0, 1) := by decide +kernel
theorem dX5_goesByDescents_4 : decode cX5_goesByDescents 4 = .ok (.getfield 59, 3) := by decide +kernel
theorem dX5_goesByDescents_7 : decode cX5_goesByDescents 7 = .ok (.getfield 76, 3) := by decide +kernel
theorem dX5_goesByDescents_10 : decode cX5_goesByDescents 10 = .ok (.if_icmp .ge 46, 3) := by decide +kernel
theorem dX5_goesByDescents_13 : decode cX5_goesByDescents 13 = .ok (.aload_n 0, 1) := by decide +kernel
theorem dX5_goesByDescents_14 : decode cX5_goesByDescents 14 = .ok (.getfield 17, 3) := by decide +kernel
theorem dX5_goesByDescents_17 : decode cX5_goesByDescents 17 = .ok (.iload_n 1, 1) := by decide +kernel
theorem dX5_goesByDescents_18 : decode cX5_goesByDescents 18 = .ok (.aaload, 1) := by decide +kernel
theorem dX5_goesByDescents_19 : decode cX5_goesByDescents 19 = .ok (.iload_n 2, 1) := by decide +kernel
theorem dX5_goesByDescents_20 : decode cX5_goesByDescents 20 = .ok (.iaload, 1) := by decide +kernel
theorem dX5_goesByDescents_21 : decode cX5_goesByDescents 21 = .ok (.aload_n 0, 1) := by decide +kernel
theorem dX5_goesByDescents_22 : decode cX5_goesByDescents 22 = .ok (.getfield 17, 3) := by decide +kernel
theorem dX5_goesByDescents_25 : decode cX5_goesByDescents 25 = .ok (.iload_n 1, 1) := by decide +kernel
theorem dX5_goesByDescents_26 : decode cX5_goesByDescents 26 = .ok (.aaload, 1) := by decide +kernel
theorem dX5_goesByDescents_27 : decode cX5_goesByDescents 27 = .ok (.aload_n 0, 1) := by decide +kernel
theorem dX5_goesByDescents_28 : decode cX5_goesByDescents 28 = .ok (.getfield 59, 3) := by decide +kernel
theorem dX5_goesByDescents_31 : decode cX5_goesByDescents 31 = .ok (.getfield 167, 3) := by decide +kernel
theorem dX5_goesByDescents_34 : decode cX5_goesByDescents 34 = .ok (.aload_n 0, 1) := by decide +kernel
theorem dX5_goesByDescents_35 : decode cX5_goesByDescents 35 = .ok (.getfield 59, 3) := by decide +kernel
theorem dX5_goesByDescents_38 : decode cX5_goesByDescents 38 = .ok (.getfield 101, 3) := by decide +kernel
theorem dX5_goesByDescents_41 : decode cX5_goesByDescents 41 = .ok (.iload_n 2, 1) := by decide +kernel
theorem dX5_goesByDescents_42 : decode cX5_goesByDescents 42 = .ok (.iaload, 1) := by decide +kernel
theorem dX5_goesByDescents_43 : decode cX5_goesByDescents 43 = .ok (.iaload, 1) := by decide +kernel
theorem dX5_goesByDescents_44 : decode cX5_goesByDescents 44 = .ok (.iaload, 1) := by decide +kernel
theorem dX5_goesByDescents_45 : decode cX5_goesByDescents 45 = .ok (.if_icmp .eq 5, 3) := by decide +kernel
theorem dX5_goesByDescents_48 : decode cX5_goesByDescents 48 = .ok (.iconst 0, 1) := by decide +kernel
theorem dX5_goesByDescents_49 : decode cX5_goesByDescents 49 = .ok (.ireturn, 1) := by decide +kernel
theorem dX5_goesByDescents_50 : decode cX5_goesByDescents 50 = .ok (.iinc 2 1, 3) := by decide +kernel
theorem dX5_goesByDescents_53 : decode cX5_goesByDescents 53 = .ok (.goto (-51), 3) := by decide +kernel
theorem dX5_goesByDescents_56 : decode cX5_goesByDescents 56 = .ok (.iconst 1, 1) := by decide +kernel
theorem dX5_goesByDescents_57 : decode cX5_goesByDescents 57 = .ok (.ireturn, 1) := by decide +kernel
set_option maxRecDepth 20000 in
theorem ggX5_wideFactor_J6_bitCount_0f7a4 : GoodIn wsX5_wideFactor wsJ6_bitCount_0f7a4 := goodIn_r _ [7, 8, 9, 10] (by decide +kernel) (by decide +kernel)
set_option maxRecDepth 20000 in
theorem gX5_wideFactor_J6_bitCount_0f7a4 : GoodIn wsX5_wideFactor (va_wsS RX5 226 yJ6_bitCount_0f7a4 wsJ6_bitCount_0f7a4) := goodIn_app (goodIn_of _ (by decide +kernel)) ggX5_wideFactor_J6_bitCount_0f7a4
theorem dX5_wideFactor_0 : decode cX5_wideFactor 0 = .ok (.lconst 0, 1) := by decide +kernel
theorem dX5_wideFactor_1 : decode cX5_wideFactor 1 = .ok (.lstore_n 2, 1) := by decide +kernel
theorem dX5_wideFactor_2 : decode cX5_wideFactor 2 = .ok (.iconst 0, 1) := by decide +kernel
theorem dX5_wideFactor_3 : decode cX5_wideFactor 3 = .ok (.istore 4, 2) := by decide +kernel
theorem dX5_wideFactor_5 : decode cX5_wideFactor 5 = .ok (.iload 4, 2) := by decide +kernel
theorem dX5_wideFactor_7 : decode cX5_wideFactor 7 = .ok (.aload_n 0, 1) := by decide +kernel
theorem dX5_wideFactor_8 : decode cX5_wideFactor 8 = .ok (.getfield 59, 3) := by decide +kernel
theorem dX5_wideFactor_11 : decode cX5_wideFactor 11 = .ok (.getfield 170, 3) := by decide +kernel
theorem dX5_wideFactor_14 : decode cX5_wideFactor 14 = .ok (.if_icmp .ge 63, 3) := by decide +kernel
theorem dX5_wideFactor_17 : decode cX5_wideFactor 17 = .ok (.iload 4, 2) := by decide +kernel
theorem dX5_wideFactor_19 : decode cX5_wideFactor 19 = .ok (.iload_n 1, 1) := by decide +kernel
theorem dX5_wideFactor_20 : decode cX5_wideFactor 20 = .ok (.iand, 1) := by decide +kernel
theorem dX5_wideFactor_21 : decode cX5_wideFactor 21 = .ok (.iload_n 1, 1) := by decide +kernel
theorem dX5_wideFactor_22 : decode cX5_wideFactor 22 = .ok (.if_icmp .ne 49, 3) := by decide +kernel
theorem dX5_wideFactor_25 : decode cX5_wideFactor 25 = .ok (.iload 4, 2) := by decide +kernel
theorem dX5_wideFactor_27 : decode cX5_wideFactor 27 = .ok (.iload_n 1, 1) := by decide +kernel
theorem dX5_wideFactor_28 : decode cX5_wideFactor 28 = .ok (.ixor, 1) := by decide +kernel
theorem dX5_wideFactor_29 : decode cX5_wideFactor 29 = .ok (.invokestatic 226, 3) := by decide +kernel
theorem dX5_wideFactor_32 : decode cX5_wideFactor 32 = .ok (.iconst 1, 1) := by decide +kernel
theorem dX5_wideFactor_33 : decode cX5_wideFactor 33 = .ok (.iand, 1) := by decide +kernel
theorem dX5_wideFactor_34 : decode cX5_wideFactor 34 = .ok (.iconst 1, 1) := by decide +kernel
theorem dX5_wideFactor_35 : decode cX5_wideFactor 35 = .ok (.if_icmp .ne 7, 3) := by decide +kernel
theorem dX5_wideFactor_38 : decode cX5_wideFactor 38 = .ok (.iconst 1, 1) := by decide +kernel
theorem dX5_wideFactor_39 : decode cX5_wideFactor 39 = .ok (.goto 4, 3) := by decide +kernel
theorem dX5_wideFactor_42 : decode cX5_wideFactor 42 = .ok (.iconst 0, 1) := by decide +kernel
theorem dX5_wideFactor_43 : decode cX5_wideFactor 43 = .ok (.istore 5, 2) := by decide +kernel
theorem dX5_wideFactor_45 : decode cX5_wideFactor 45 = .ok (.lload_n 2, 1) := by decide +kernel
theorem dX5_wideFactor_46 : decode cX5_wideFactor 46 = .ok (.iload 5, 2) := by decide +kernel
theorem dX5_wideFactor_48 : decode cX5_wideFactor 48 = .ok (.ifCond .eq 14, 3) := by decide +kernel
theorem dX5_wideFactor_51 : decode cX5_wideFactor 51 = .ok (.aload_n 0, 1) := by decide +kernel
theorem dX5_wideFactor_52 : decode cX5_wideFactor 52 = .ok (.getfield 24, 3) := by decide +kernel
theorem dX5_wideFactor_55 : decode cX5_wideFactor 55 = .ok (.iload 4, 2) := by decide +kernel
theorem dX5_wideFactor_57 : decode cX5_wideFactor 57 = .ok (.laload, 1) := by decide +kernel
theorem dX5_wideFactor_58 : decode cX5_wideFactor 58 = .ok (.lneg, 1) := by decide +kernel
theorem dX5_wideFactor_59 : decode cX5_wideFactor 59 = .ok (.goto 10, 3) := by decide +kernel
theorem dX5_wideFactor_62 : decode cX5_wideFactor 62 = .ok (.aload_n 0, 1) := by decide +kernel
theorem dX5_wideFactor_63 : decode cX5_wideFactor 63 = .ok (.getfield 24, 3) := by decide +kernel
theorem dX5_wideFactor_66 : decode cX5_wideFactor 66 = .ok (.iload 4, 2) := by decide +kernel
theorem dX5_wideFactor_68 : decode cX5_wideFactor 68 = .ok (.laload, 1) := by decide +kernel
theorem dX5_wideFactor_69 : decode cX5_wideFactor 69 = .ok (.ladd, 1) := by decide +kernel
theorem dX5_wideFactor_70 : decode cX5_wideFactor 70 = .ok (.lstore_n 2, 1) := by decide +kernel
theorem dX5_wideFactor_71 : decode cX5_wideFactor 71 = .ok (.iinc 4 1, 3) := by decide +kernel
theorem dX5_wideFactor_74 : decode cX5_wideFactor 74 = .ok (.goto (-69), 3) := by decide +kernel
theorem dX5_wideFactor_77 : decode cX5_wideFactor 77 = .ok (.lload_n 2, 1) := by decide +kernel
theorem dX5_wideFactor_78 : decode cX5_wideFactor 78 = .ok (.l2i, 1) := by decide +kernel
theorem dX5_wideFactor_79 : decode cX5_wideFactor 79 = .ok (.ireturn, 1) := by decide +kernel
set_option maxRecDepth 20000 in
theorem ggX5_timesInProduct_X1_isInWideClass : GoodIn wsX5_timesInProduct wsX1_isInWideClass := goodIn_r _ [8, 9, 25, 26, 27, 28, 29, 30, 31, 32, 33, 34, 35] (by decide +kernel) (by decide +kernel)
set_option maxRecDepth 20000 in
theorem gX5_timesInProduct_X1_isInWideClass : GoodIn wsX5_timesInProduct (wsV RX5 97 RX1 yX1_isInWideClass wsX1_isInWideClass) := goodIn_app (goodIn_of _ (by decide +kernel)) ggX5_timesInProduct_X1_isInWideClass
set_option maxRecDepth 20000 in
theorem ggX5_timesInProduct_X1_times : GoodIn wsX5_timesInProduct wsX1_times := goodIn_r _ [13, 14, 15, 25, 26, 27, 28, 29, 30, 31, 32, 33, 34, 35] (by decide +kernel) (by decide +kernel)
set_option maxRecDepth 20000 in
theorem gX5_timesInProduct_X1_times : GoodIn wsX5_timesInProduct (wsV RX5 151 RX1 yX1_times wsX1_times) := goodIn_app (goodIn_of _ (by decide +kernel)) ggX5_timesInProduct_X1_times
theorem dX5_timesInProduct_0 : decode cX5_timesInProduct 0 = .ok (.iconst 0, 1) := by decide +kernel
theorem dX5_timesInProduct_1 : decode cX5_timesInProduct 1 = .ok (.istore 4, 2) := by decide +kernel
theorem dX5_timesInProduct_3 : decode cX5_timesInProduct 3 = .ok (.iconst 0, 1) := by decide +kernel
theorem dX5_timesInProduct_4 : decode cX5_timesInProduct 4 = .ok (.istore 5, 2) := by decide +kernel
theorem dX5_timesInProduct_6 : decode cX5_timesInProduct 6 = .ok (.iload 5, 2) := by decide +kernel
theorem dX5_timesInProduct_8 : decode cX5_timesInProduct 8 = .ok (.aload_n 0, 1) := by decide +kernel
theorem dX5_timesInProduct_9 : decode cX5_timesInProduct 9 = .ok (.getfield 59, 3) := by decide +kernel
theorem dX5_timesInProduct_12 : decode cX5_timesInProduct 12 = .ok (.getfield 76, 3) := by decide +kernel
theorem dX5_timesInProduct_15 : decode cX5_timesInProduct 15 = .ok (.if_icmp .ge 54, 3) := by decide +kernel
theorem dX5_timesInProduct_18 : decode cX5_timesInProduct 18 = .ok (.aload_n 0, 1) := by decide +kernel
theorem dX5_timesInProduct_19 : decode cX5_timesInProduct 19 = .ok (.getfield 59, 3) := by decide +kernel
theorem dX5_timesInProduct_22 : decode cX5_timesInProduct 22 = .ok (.iload 5, 2) := by decide +kernel
theorem dX5_timesInProduct_24 : decode cX5_timesInProduct 24 = .ok (.iload_n 2, 1) := by decide +kernel
theorem dX5_timesInProduct_25 : decode cX5_timesInProduct 25 = .ok (.invokevirtual 97, 3) := by decide +kernel
theorem dX5_timesInProduct_28 : decode cX5_timesInProduct 28 = .ok (.ifCond .eq 35, 3) := by decide +kernel
theorem dX5_timesInProduct_31 : decode cX5_timesInProduct 31 = .ok (.aload_n 0, 1) := by decide +kernel
theorem dX5_timesInProduct_32 : decode cX5_timesInProduct 32 = .ok (.getfield 59, 3) := by decide +kernel
theorem dX5_timesInProduct_35 : decode cX5_timesInProduct 35 = .ok (.aload_n 0, 1) := by decide +kernel
theorem dX5_timesInProduct_36 : decode cX5_timesInProduct 36 = .ok (.getfield 59, 3) := by decide +kernel
theorem dX5_timesInProduct_39 : decode cX5_timesInProduct 39 = .ok (.iload_n 3, 1) := by decide +kernel
theorem dX5_timesInProduct_40 : decode cX5_timesInProduct 40 = .ok (.aload_n 0, 1) := by decide +kernel
theorem dX5_timesInProduct_41 : decode cX5_timesInProduct 41 = .ok (.getfield 59, 3) := by decide +kernel
theorem dX5_timesInProduct_44 : decode cX5_timesInProduct 44 = .ok (.getfield 142, 3) := by decide +kernel
theorem dX5_timesInProduct_47 : decode cX5_timesInProduct 47 = .ok (.iload 5, 2) := by decide +kernel
theorem dX5_timesInProduct_49 : decode cX5_timesInProduct 49 = .ok (.iaload, 1) := by decide +kernel
theorem dX5_timesInProduct_50 : decode cX5_timesInProduct 50 = .ok (.invokevirtual 151, 3) := by decide +kernel
theorem dX5_timesInProduct_53 : decode cX5_timesInProduct 53 = .ok (.iload_n 1, 1) := by decide +kernel
theorem dX5_timesInProduct_54 : decode cX5_timesInProduct 54 = .ok (.invokevirtual 97, 3) := by decide +kernel
theorem dX5_timesInProduct_57 : decode cX5_timesInProduct 57 = .ok (.ifCond .eq 6, 3) := by decide +kernel
theorem dX5_timesInProduct_60 : decode cX5_timesInProduct 60 = .ok (.iinc 4 1, 3) := by decide +kernel
theorem dX5_timesInProduct_63 : decode cX5_timesInProduct 63 = .ok (.iinc 5 1, 3) := by decide +kernel
theorem dX5_timesInProduct_66 : decode cX5_timesInProduct 66 = .ok (.goto (-60), 3) := by decide +kernel
theorem dX5_timesInProduct_69 : decode cX5_timesInProduct 69 = .ok (.iload 4, 2) := by decide +kernel
theorem dX5_timesInProduct_71 : decode cX5_timesInProduct 71 = .ok (.ireturn, 1) := by decide +kernel
theorem dJ6_bitCount_0f7a4_0 : decode cJ6_bitCount_0f7a4 0 = .ok (.iload_n 0, 1) := by decide +kernel
theorem dJ6_bitCount_0f7a4_1 : decode cJ6_bitCount_0f7a4 1 = .ok (.iload_n 0, 1) := by decide +kernel
theorem dJ6_bitCount_0f7a4_2 : decode cJ6_bitCount_0f7a4 2 = .ok (.iconst 1, 1) := by decide +kernel
theorem dJ6_bitCount_0f7a4_3 : decode cJ6_bitCount_0f7a4 3 = .ok (.iushr, 1) := by decide +kernel
theorem dJ6_bitCount_0f7a4_4 : decode cJ6_bitCount_0f7a4 4 = .ok (.ldc_w 265, 3) := by decide +kernel
theorem dJ6_bitCount_0f7a4_7 : decode cJ6_bitCount_0f7a4 7 = .ok (.iand, 1) := by decide +kernel
theorem dJ6_bitCount_0f7a4_8 : decode cJ6_bitCount_0f7a4 8 = .ok (.isub, 1) := by decide +kernel
theorem dJ6_bitCount_0f7a4_9 : decode cJ6_bitCount_0f7a4 9 = .ok (.istore_n 0, 1) := by decide +kernel
theorem dJ6_bitCount_0f7a4_10 : decode cJ6_bitCount_0f7a4 10 = .ok (.iload_n 0, 1) := by decide +kernel
theorem dJ6_bitCount_0f7a4_11 : decode cJ6_bitCount_0f7a4 11 = .ok (.ldc_w 266, 3) := by decide +kernel
theorem dJ6_bitCount_0f7a4_14 : decode cJ6_bitCount_0f7a4 14 = .ok (.iand, 1) := by decide +kernel
theorem dJ6_bitCount_0f7a4_15 : decode cJ6_bitCount_0f7a4 15 = .ok (.iload_n 0, 1) := by decide +kernel
theorem dJ6_bitCount_0f7a4_16 : decode cJ6_bitCount_0f7a4 16 = .ok (.iconst 2, 1) := by decide +kernel
theorem dJ6_bitCount_0f7a4_17 : decode cJ6_bitCount_0f7a4 17 = .ok (.iushr, 1) := by decide +kernel
theorem dJ6_bitCount_0f7a4_18 : decode cJ6_bitCount_0f7a4 18 = .ok (.ldc_w 266, 3) := by decide +kernel
theorem dJ6_bitCount_0f7a4_21 : decode cJ6_bitCount_0f7a4 21 = .ok (.iand, 1) := by decide +kernel
theorem dJ6_bitCount_0f7a4_22 : decode cJ6_bitCount_0f7a4 22 = .ok (.iadd, 1) := by decide +kernel
theorem dJ6_bitCount_0f7a4_23 : decode cJ6_bitCount_0f7a4 23 = .ok (.istore_n 0, 1) := by decide +kernel
theorem dJ6_bitCount_0f7a4_24 : decode cJ6_bitCount_0f7a4 24 = .ok (.iload_n 0, 1) := by decide +kernel
theorem dJ6_bitCount_0f7a4_25 : decode cJ6_bitCount_0f7a4 25 = .ok (.iload_n 0, 1) := by decide +kernel
theorem dJ6_bitCount_0f7a4_26 : decode cJ6_bitCount_0f7a4 26 = .ok (.iconst 4, 1) := by decide +kernel
theorem dJ6_bitCount_0f7a4_27 : decode cJ6_bitCount_0f7a4 27 = .ok (.iushr, 1) := by decide +kernel
theorem dJ6_bitCount_0f7a4_28 : decode cJ6_bitCount_0f7a4 28 = .ok (.iadd, 1) := by decide +kernel
theorem dJ6_bitCount_0f7a4_29 : decode cJ6_bitCount_0f7a4 29 = .ok (.ldc_w 267, 3) := by decide +kernel
theorem dJ6_bitCount_0f7a4_32 : decode cJ6_bitCount_0f7a4 32 = .ok (.iand, 1) := by decide +kernel
theorem dJ6_bitCount_0f7a4_33 : decode cJ6_bitCount_0f7a4 33 = .ok (.istore_n 0, 1) := by decide +kernel
theorem dJ6_bitCount_0f7a4_34 : decode cJ6_bitCount_0f7a4 34 = .ok (.iload_n 0, 1) := by decide +kernel
theorem dJ6_bitCount_0f7a4_35 : decode cJ6_bitCount_0f7a4 35 = .ok (.iload_n 0, 1) := by decide +kernel
theorem dJ6_bitCount_0f7a4_36 : decode cJ6_bitCount_0f7a4 36 = .ok (.bipush 8, 2) := by decide +kernel
theorem dJ6_bitCount_0f7a4_38 : decode cJ6_bitCount_0f7a4 38 = .ok (.iushr, 1) := by decide +kernel
theorem dJ6_bitCount_0f7a4_39 : decode cJ6_bitCount_0f7a4 39 = .ok (.iadd, 1) := by decide +kernel
theorem dJ6_bitCount_0f7a4_40 : decode cJ6_bitCount_0f7a4 40 = .ok (.istore_n 0, 1) := by decide +kernel
theorem dJ6_bitCount_0f7a4_41 : decode cJ6_bitCount_0f7a4 41 = .ok (.iload_n 0, 1) := by decide +kernel
theorem dJ6_bitCount_0f7a4_42 : decode cJ6_bitCount_0f7a4 42 = .ok (.iload_n 0, 1) := by decide +kernel
theorem dJ6_bitCount_0f7a4_43 : decode cJ6_bitCount_0f7a4 43 = .ok (.bipush 16, 2) := by decide +kernel
theorem dJ6_bitCount_0f7a4_45 : decode cJ6_bitCount_0f7a4 45 = .ok (.iushr, 1) := by decide +kernel
theorem dJ6_bitCount_0f7a4_46 : decode cJ6_bitCount_0f7a4 46 = .ok (.iadd, 1) := by decide +kernel
theorem dJ6_bitCount_0f7a4_47 : decode cJ6_bitCount_0f7a4 47 = .ok (.istore_n 0, 1) := by decide +kernel
theorem dJ6_bitCount_0f7a4_48 : decode cJ6_bitCount_0f7a4 48 = .ok (.iload_n 0, 1) := by decide +kernel
theorem dJ6_bitCount_0f7a4_49 : decode cJ6_bitCount_0f7a4 49 = .ok (.bipush 63, 2) := by decide +kernel
theorem dJ6_bitCount_0f7a4_51 : decode cJ6_bitCount_0f7a4 51 = .ok (.iand, 1) := by decide +kernel
theorem dJ6_bitCount_0f7a4_52 : decode cJ6_bitCount_0f7a4 52 = .ok (.ireturn, 1) := by decide +kernel
theorem dJ9_max_7cf53_0 : decode cJ9_max_7cf53 0 = .ok (.iload_n 0, 1) := by decide +kernel
theorem dJ9_max_7cf53_1 : decode cJ9_max_7cf53 1 = .ok (.iload_n 1, 1) := by decide +kernel
theorem dJ9_max_7cf53_2 : decode cJ9_max_7cf53 2 = .ok (.if_icmp .lt 7, 3) := by decide +kernel
theorem dJ9_max_7cf53_5 : decode cJ9_max_7cf53 5 = .ok (.iload_n 0, 1) := by decide +kernel
theorem dJ9_max_7cf53_6 : decode cJ9_max_7cf53 6 = .ok (.goto 4, 3) := by decide +kernel
theorem dJ9_max_7cf53_9 : decode cJ9_max_7cf53 9 = .ok (.iload_n 1, 1) := by decide +kernel
theorem dJ9_max_7cf53_10 : decode cJ9_max_7cf53 10 = .ok (.ireturn, 1) := by decide +kernel
theorem dJ9_min_7cf53_0 : decode cJ9_min_7cf53 0 = .ok (.iload_n 0, 1) := by decide +kernel
theorem dJ9_min_7cf53_1 : decode cJ9_min_7cf53 1 = .ok (.iload_n 1, 1) := by decide +kernel
theorem dJ9_min_7cf53_2 : decode cJ9_min_7cf53 2 = .ok (.if_icmp .gt 7, 3) := by decide +kernel
theorem dJ9_min_7cf53_5 : decode cJ9_min_7cf53 5 = .ok (.iload_n 0, 1) := by decide +kernel
theorem dJ9_min_7cf53_6 : decode cJ9_min_7cf53 6 = .ok (.goto 4, 3) := by decide +kernel
theorem dJ9_min_7cf53_9 : decode cJ9_min_7cf53 9 = .ok (.iload_n 1, 1) := by decide +kernel
theorem dJ9_min_7cf53_10 : decode cJ9_min_7cf53 10 = .ok (.ireturn, 1) := by decide +kernel
theorem dL_cell_0 : decode cL_cell 0 = .ok (.iload_n 1, 1) := by decide +kernel
theorem dL_cell_1 : decode cL_cell 1 = .ok (.aload_n 0, 1) := by decide +kernel
theorem dL_cell_2 : decode cL_cell 2 = .ok (.arraylength, 1) := by decide +kernel
theorem dL_cell_3 : decode cL_cell 3 = .ok (.if_icmp .ge 9, 3) := by decide +kernel
theorem dL_cell_6 : decode cL_cell 6 = .ok (.aload_n 0, 1) := by decide +kernel
theorem dL_cell_7 : decode cL_cell 7 = .ok (.iload_n 1, 1) := by decide +kernel
theorem dL_cell_8 : decode cL_cell 8 = .ok (.iaload, 1) := by decide +kernel
theorem dL_cell_9 : decode cL_cell 9 = .ok (.goto 11, 3) := by decide +kernel
theorem dL_cell_12 : decode cL_cell 12 = .ok (.ldc 7, 2) := by decide +kernel
theorem dL_cell_14 : decode cL_cell 14 = .ok (.iload_n 1, 1) := by decide +kernel
theorem dL_cell_15 : decode cL_cell 15 = .ok (.sipush 997, 3) := by decide +kernel
theorem dL_cell_18 : decode cL_cell 18 = .ok (.iadd, 1) := by decide +kernel
theorem dL_cell_19 : decode cL_cell 19 = .ok (.imul, 1) := by decide +kernel
theorem dL_cell_20 : decode cL_cell 20 = .ok (.ireturn, 1) := by decide +kernel
theorem dL_up_0 : decode cL_up 0 = .ok (.iload_n 0, 1) := by decide +kernel
theorem dL_up_1 : decode cL_up 1 = .ok (.ldc 8, 2) := by decide +kernel
theorem dL_up_3 : decode cL_up 3 = .ok (.iand, 1) := by decide +kernel
theorem dL_up_4 : decode cL_up 4 = .ok (.iload_n 1, 1) := by decide +kernel
theorem dL_up_5 : decode cL_up 5 = .ok (.irem, 1) := by decide +kernel
theorem dL_up_6 : decode cL_up 6 = .ok (.ireturn, 1) := by decide +kernel
set_option maxRecDepth 20000 in
theorem ggL_areSame_X5_count : GoodIn wsL_areSame wsX5_count := goodIn_r _ [5, 6, 7, 8, 9, 10, 11, 12, 13, 29, 30, 31, 32, 33, 34, 35, 36, 37, 38, 39, 40, 41, 42, 43, 44, 45, 46, 47, 48, 49, 50, 51, 52, 53, 54] (by decide +kernel) (by decide +kernel)
set_option maxRecDepth 20000 in
theorem gL_areSame_X5_count : GoodIn wsL_areSame (wsV RL 9 RX5 yX5_count wsX5_count) := goodIn_app (goodIn_of _ (by decide +kernel)) ggL_areSame_X5_count
set_option maxRecDepth 20000 in
theorem ggL_areSame_X5_factor : GoodIn wsL_areSame wsX5_factor := goodIn_r _ [17, 13, 18, 19, 20, 4, 21, 22, 23, 24, 25, 26, 27, 28, 6, 8, 29, 30, 31, 32, 33, 34, 35, 36, 37, 38, 39, 40, 41, 42, 43, 44, 45, 46, 47, 48] (by decide +kernel) (by decide +kernel)
set_option maxRecDepth 20000 in
theorem gL_areSame_X5_factor : GoodIn wsL_areSame (wsV RL 15 RX5 yX5_factor wsX5_factor) := goodIn_app (goodIn_of _ (by decide +kernel)) ggL_areSame_X5_factor
theorem dL_areSame_0 : decode cL_areSame 0 = .ok (.iconst 1, 1) := by decide +kernel
theorem dL_areSame_1 : decode cL_areSame 1 = .ok (.istore 4, 2) := by decide +kernel
theorem dL_areSame_3 : decode cL_areSame 3 = .ok (.iconst 0, 1) := by decide +kernel
theorem dL_areSame_4 : decode cL_areSame 4 = .ok (.istore 5, 2) := by decide +kernel
theorem dL_areSame_6 : decode cL_areSame 6 = .ok (.iload 5, 2) := by decide +kernel
theorem dL_areSame_8 : decode cL_areSame 8 = .ok (.aload_n 0, 1) := by decide +kernel
theorem dL_areSame_9 : decode cL_areSame 9 = .ok (.iconst 1, 1) := by decide +kernel
theorem dL_areSame_10 : decode cL_areSame 10 = .ok (.invokevirtual 9, 3) := by decide +kernel
theorem dL_areSame_13 : decode cL_areSame 13 = .ok (.if_icmp .ge 38, 3) := by decide +kernel
theorem dL_areSame_16 : decode cL_areSame 16 = .ok (.iload 4, 2) := by decide +kernel
theorem dL_areSame_18 : decode cL_areSame 18 = .ok (.ifCond .eq 24, 3) := by decide +kernel
theorem dL_areSame_21 : decode cL_areSame 21 = .ok (.aload_n 0, 1) := by decide +kernel
theorem dL_areSame_22 : decode cL_areSame 22 = .ok (.iload_n 1, 1) := by decide +kernel
theorem dL_areSame_23 : decode cL_areSame 23 = .ok (.iload 5, 2) := by decide +kernel
theorem dL_areSame_25 : decode cL_areSame 25 = .ok (.invokevirtual 15, 3) := by decide +kernel
theorem dL_areSame_28 : decode cL_areSame 28 = .ok (.aload_n 2, 1) := by decide +kernel
theorem dL_areSame_29 : decode cL_areSame 29 = .ok (.iload_n 3, 1) := by decide +kernel
theorem dL_areSame_30 : decode cL_areSame 30 = .ok (.iload 5, 2) := by decide +kernel
theorem dL_areSame_32 : decode cL_areSame 32 = .ok (.invokevirtual 15, 3) := by decide +kernel
theorem dL_areSame_35 : decode cL_areSame 35 = .ok (.if_icmp .ne 7, 3) := by decide +kernel
theorem dL_areSame_38 : decode cL_areSame 38 = .ok (.iconst 1, 1) := by decide +kernel
theorem dL_areSame_39 : decode cL_areSame 39 = .ok (.goto 4, 3) := by decide +kernel
theorem dL_areSame_42 : decode cL_areSame 42 = .ok (.iconst 0, 1) := by decide +kernel
theorem dL_areSame_43 : decode cL_areSame 43 = .ok (.istore 4, 2) := by decide +kernel
theorem dL_areSame_45 : decode cL_areSame 45 = .ok (.iinc 5 1, 3) := by decide +kernel
theorem dL_areSame_48 : decode cL_areSame 48 = .ok (.goto (-42), 3) := by decide +kernel
theorem dL_areSame_51 : decode cL_areSame 51 = .ok (.iload 4, 2) := by decide +kernel
theorem dL_areSame_53 : decode cL_areSame 53 = .ok (.ireturn, 1) := by decide +kernel
set_option maxRecDepth 20000 in
theorem ggL_gets_X5_clear : GoodIn wsL_gets wsX5_clear := goodIn_r _ [5, 6, 7, 8, 4, 9, 10, 11, 12, 13, 14, 15, 16, 17, 18, 19, 20, 21, 22, 23, 24, 25, 26, 27, 28, 29, 30, 31, 32, 33, 34, 35, 36, 37, 38, 39, 40, 41, 42, 43, 44, 45, 46, 47, 48, 49, 50, 91, 92, 93, 94, 95, 96, 97, 98, 99, 100, 101, 102, 103, 104, 105, 106, 107, 108, 109, 110, 111, 112, 113, 114] (by decide +kernel) (by decide +kernel)
set_option maxRecDepth 20000 in
theorem gL_gets_X5_clear : GoodIn wsL_gets (wsV RL 19 RX5 yX5_clear wsX5_clear) := goodIn_app (goodIn_of _ (by decide +kernel)) ggL_gets_X5_clear
set_option maxRecDepth 20000 in
theorem ggL_gets_X5_count : GoodIn wsL_gets wsX5_count := goodIn_r _ [54, 17, 33, 18, 32, 55, 56, 57, 6, 91, 92, 93, 94, 95, 96, 97, 98, 99, 100, 101, 102, 103, 104, 105, 106, 107, 108, 109, 110, 111, 112, 113, 114, 115, 116] (by decide +kernel) (by decide +kernel)
set_option maxRecDepth 20000 in
theorem gL_gets_X5_count : GoodIn wsL_gets (wsV RL 9 RX5 yX5_count wsX5_count) := goodIn_app (goodIn_of _ (by decide +kernel)) ggL_gets_X5_count
set_option maxRecDepth 20000 in
theorem ggL_gets_L_up : GoodIn wsL_gets wsL_up := goodIn_r _ [61, 62] (by decide +kernel) (by decide +kernel)
set_option maxRecDepth 20000 in
theorem gL_gets_L_up : GoodIn wsL_gets (va_wsS RL 22 yL_up wsL_up) := goodIn_app (goodIn_of _ (by decide +kernel)) ggL_gets_L_up
set_option maxRecDepth 20000 in
theorem ggL_gets_X5_addClass : GoodIn wsL_gets wsX5_addClass := goodIn_r _ [66, 6, 17, 18, 67, 24, 7, 8, 4, 9, 10, 11, 12, 68, 69, 70, 71, 72, 73, 74, 75, 76, 19, 77, 78, 79, 80, 81, 82, 25, 26, 27, 28, 29, 30, 31, 32, 33, 34, 35, 36, 37, 38, 39, 40, 41, 42, 43, 44, 45, 46, 47, 48, 49, 50, 91, 92, 93, 94, 95, 96, 97, 98, 99, 100, 101, 102, 103, 104, 105, 106, 107, 108, 109, 110, 111, 112, 113, 114] (by decide +kernel) (by decide +kernel)
set_option maxRecDepth 20000 in
theorem gL_gets_X5_addClass : GoodIn wsL_gets (wsV RL 27 RX5 yX5_addClass wsX5_addClass) := goodIn_app (goodIn_of _ (by decide +kernel)) ggL_gets_X5_addClass
set_option maxRecDepth 20000 in
theorem ggL_gets_X5_add : GoodIn wsL_gets wsX5_add := goodIn_r _ [86, 6, 24, 7, 8, 4, 9, 10, 11, 12, 87, 88, 89, 90, 17, 18, 73, 74, 75, 76, 19, 25, 26, 27, 28, 29, 30, 31, 32, 33, 34, 35, 36, 37, 38, 39, 40, 41, 42, 43, 44, 45, 46, 47, 48, 49, 50, 91, 92, 93, 94, 95, 96, 97, 98, 99, 100, 101, 102, 103, 104, 105, 106, 107, 108, 109, 110, 111, 112, 113, 114] (by decide +kernel) (by decide +kernel)
set_option maxRecDepth 20000 in
theorem gL_gets_X5_add : GoodIn wsL_gets (wsV RL 31 RX5 yX5_add wsX5_add) := goodIn_app (goodIn_of _ (by decide +kernel)) ggL_gets_X5_add
theorem dL_gets_0 : decode cL_gets 0 = .ok (.aload_n 0, 1) := by decide +kernel
theorem dL_gets_1 : decode cL_gets 1 = .ok (.iload_n 1, 1) := by decide +kernel
theorem dL_gets_2 : decode cL_gets 2 = .ok (.invokevirtual 19, 3) := by decide +kernel
theorem dL_gets_5 : decode cL_gets 5 = .ok (.ifCond .lt 15, 3) := by decide +kernel
theorem dL_gets_8 : decode cL_gets 8 = .ok (.aload_n 2, 1) := by decide +kernel
theorem dL_gets_9 : decode cL_gets 9 = .ok (.iload_n 3, 1) := by decide +kernel
theorem dL_gets_10 : decode cL_gets 10 = .ok (.invokevirtual 19, 3) := by decide +kernel
theorem dL_gets_13 : decode cL_gets 13 = .ok (.ifCond .lt 7, 3) := by decide +kernel
theorem dL_gets_16 : decode cL_gets 16 = .ok (.iconst 1, 1) := by decide +kernel
theorem dL_gets_17 : decode cL_gets 17 = .ok (.goto 4, 3) := by decide +kernel
theorem dL_gets_20 : decode cL_gets 20 = .ok (.iconst 0, 1) := by decide +kernel
theorem dL_gets_21 : decode cL_gets 21 = .ok (.istore 6, 2) := by decide +kernel
theorem dL_gets_23 : decode cL_gets 23 = .ok (.aload_n 0, 1) := by decide +kernel
theorem dL_gets_24 : decode cL_gets 24 = .ok (.iconst 1, 1) := by decide +kernel
theorem dL_gets_25 : decode cL_gets 25 = .ok (.invokevirtual 9, 3) := by decide +kernel
theorem dL_gets_28 : decode cL_gets 28 = .ok (.istore 7, 2) := by decide +kernel
theorem dL_gets_30 : decode cL_gets 30 = .ok (.iconst 0, 1) := by decide +kernel
theorem dL_gets_31 : decode cL_gets 31 = .ok (.istore 8, 2) := by decide +kernel
theorem dL_gets_33 : decode cL_gets 33 = .ok (.iload 8, 2) := by decide +kernel
theorem dL_gets_35 : decode cL_gets 35 = .ok (.iconst 3, 1) := by decide +kernel
theorem dL_gets_36 : decode cL_gets 36 = .ok (.if_icmp .ge 167, 3) := by decide +kernel
theorem dL_gets_39 : decode cL_gets 39 = .ok (.iload 5, 2) := by decide +kernel
theorem dL_gets_41 : decode cL_gets 41 = .ok (.ifCond .eq 19, 3) := by decide +kernel
theorem dL_gets_44 : decode cL_gets 44 = .ok (.iload 4, 2) := by decide +kernel
theorem dL_gets_46 : decode cL_gets 46 = .ok (.iconst 3, 1) := by decide +kernel
theorem dL_gets_47 : decode cL_gets 47 = .ok (.iload 8, 2) := by decide +kernel
theorem dL_gets_49 : decode cL_gets 49 = .ok (.imul, 1) := by decide +kernel
theorem dL_gets_50 : decode cL_gets 50 = .ok (.ishr, 1) := by decide +kernel
theorem dL_gets_51 : decode cL_gets 51 = .ok (.iconst 3, 1) := by decide +kernel
theorem dL_gets_52 : decode cL_gets 52 = .ok (.invokestatic 22, 3) := by decide +kernel
theorem dL_gets_55 : decode cL_gets 55 = .ok (.iconst 1, 1) := by decide +kernel
theorem dL_gets_56 : decode cL_gets 56 = .ok (.isub, 1) := by decide +kernel
theorem dL_gets_57 : decode cL_gets 57 = .ok (.goto 16, 3) := by decide +kernel
theorem dL_gets_60 : decode cL_gets 60 = .ok (.iload 4, 2) := by decide +kernel
theorem dL_gets_62 : decode cL_gets 62 = .ok (.iconst 3, 1) := by decide +kernel
theorem dL_gets_63 : decode cL_gets 63 = .ok (.iload 8, 2) := by decide +kernel
theorem dL_gets_65 : decode cL_gets 65 = .ok (.imul, 1) := by decide +kernel
theorem dL_gets_66 : decode cL_gets 66 = .ok (.ishr, 1) := by decide +kernel
theorem dL_gets_67 : decode cL_gets 67 = .ok (.iconst 5, 1) := by decide +kernel
theorem dL_gets_68 : decode cL_gets 68 = .ok (.invokestatic 22, 3) := by decide +kernel
theorem dL_gets_71 : decode cL_gets 71 = .ok (.iconst 2, 1) := by decide +kernel
theorem dL_gets_72 : decode cL_gets 72 = .ok (.isub, 1) := by decide +kernel
theorem dL_gets_73 : decode cL_gets 73 = .ok (.istore 9, 2) := by decide +kernel
theorem dL_gets_75 : decode cL_gets 75 = .ok (.iload 5, 2) := by decide +kernel
theorem dL_gets_77 : decode cL_gets 77 = .ok (.ifCond .eq 70, 3) := by decide +kernel
theorem dL_gets_80 : decode cL_gets 80 = .ok (.iload 4, 2) := by decide +kernel
theorem dL_gets_82 : decode cL_gets 82 = .ok (.iconst 3, 1) := by decide +kernel
theorem dL_gets_83 : decode cL_gets 83 = .ok (.iconst 5, 1) := by decide +kernel
theorem dL_gets_84 : decode cL_gets 84 = .ok (.iload 8, 2) := by decide +kernel
theorem dL_gets_86 : decode cL_gets 86 = .ok (.imul, 1) := by decide +kernel
theorem dL_gets_87 : decode cL_gets 87 = .ok (.iadd, 1) := by decide +kernel
theorem dL_gets_88 : decode cL_gets 88 = .ok (.ishr, 1) := by decide +kernel
theorem dL_gets_89 : decode cL_gets 89 = .ok (.iconst 1, 1) := by decide +kernel
theorem dL_gets_90 : decode cL_gets 90 = .ok (.aload_n 0, 1) := by decide +kernel
theorem dL_gets_91 : decode cL_gets 91 = .ok (.iconst 0, 1) := by decide +kernel
theorem dL_gets_92 : decode cL_gets 92 = .ok (.invokevirtual 9, 3) := by decide +kernel
theorem dL_gets_95 : decode cL_gets 95 = .ok (.iconst 1, 1) := by decide +kernel
theorem dL_gets_96 : decode cL_gets 96 = .ok (.isub, 1) := by decide +kernel
theorem dL_gets_97 : decode cL_gets 97 = .ok (.ishl, 1) := by decide +kernel
theorem dL_gets_98 : decode cL_gets 98 = .ok (.invokestatic 22, 3) := by decide +kernel
theorem dL_gets_101 : decode cL_gets 101 = .ok (.istore 10, 2) := by decide +kernel
theorem dL_gets_103 : decode cL_gets 103 = .ok (.iload 6, 2) := by decide +kernel
theorem dL_gets_105 : decode cL_gets 105 = .ok (.ifCond .eq 36, 3) := by decide +kernel
theorem dL_gets_108 : decode cL_gets 108 = .ok (.aload_n 0, 1) := by decide +kernel
theorem dL_gets_109 : decode cL_gets 109 = .ok (.iload_n 1, 1) := by decide +kernel
theorem dL_gets_110 : decode cL_gets 110 = .ok (.iload 10, 2) := by decide +kernel
theorem dL_gets_112 : decode cL_gets 112 = .ok (.iload 8, 2) := by decide +kernel
theorem dL_gets_114 : decode cL_gets 114 = .ok (.iconst 2, 1) := by decide +kernel
theorem dL_gets_115 : decode cL_gets 115 = .ok (.irem, 1) := by decide +kernel
theorem dL_gets_116 : decode cL_gets 116 = .ok (.iload 9, 2) := by decide +kernel
theorem dL_gets_118 : decode cL_gets 118 = .ok (.invokevirtual 27, 3) := by decide +kernel
theorem dL_gets_121 : decode cL_gets 121 = .ok (.aload_n 2, 1) := by decide +kernel
theorem dL_gets_122 : decode cL_gets 122 = .ok (.iload_n 3, 1) := by decide +kernel
theorem dL_gets_123 : decode cL_gets 123 = .ok (.iload 10, 2) := by decide +kernel
theorem dL_gets_125 : decode cL_gets 125 = .ok (.iload 8, 2) := by decide +kernel
theorem dL_gets_127 : decode cL_gets 127 = .ok (.iconst 2, 1) := by decide +kernel
theorem dL_gets_128 : decode cL_gets 128 = .ok (.irem, 1) := by decide +kernel
theorem dL_gets_129 : decode cL_gets 129 = .ok (.iload 9, 2) := by decide +kernel
theorem dL_gets_131 : decode cL_gets 131 = .ok (.invokevirtual 27, 3) := by decide +kernel
theorem dL_gets_134 : decode cL_gets 134 = .ok (.if_icmp .ne 7, 3) := by decide +kernel
theorem dL_gets_137 : decode cL_gets 137 = .ok (.iconst 1, 1) := by decide +kernel
theorem dL_gets_138 : decode cL_gets 138 = .ok (.goto 4, 3) := by decide +kernel
theorem dL_gets_141 : decode cL_gets 141 = .ok (.iconst 0, 1) := by decide +kernel
theorem dL_gets_142 : decode cL_gets 142 = .ok (.istore 6, 2) := by decide +kernel
theorem dL_gets_144 : decode cL_gets 144 = .ok (.goto 53, 3) := by decide +kernel
theorem dL_gets_147 : decode cL_gets 147 = .ok (.iload 4, 2) := by decide +kernel
theorem dL_gets_149 : decode cL_gets 149 = .ok (.iconst 5, 1) := by decide +kernel
theorem dL_gets_150 : decode cL_gets 150 = .ok (.bipush 7, 2) := by decide +kernel
theorem dL_gets_152 : decode cL_gets 152 = .ok (.iload 8, 2) := by decide +kernel
theorem dL_gets_154 : decode cL_gets 154 = .ok (.imul, 1) := by decide +kernel
theorem dL_gets_155 : decode cL_gets 155 = .ok (.iadd, 1) := by decide +kernel
theorem dL_gets_156 : decode cL_gets 156 = .ok (.ishr, 1) := by decide +kernel
theorem dL_gets_157 : decode cL_gets 157 = .ok (.iload 7, 2) := by decide +kernel
theorem dL_gets_159 : decode cL_gets 159 = .ok (.invokestatic 22, 3) := by decide +kernel
theorem dL_gets_162 : decode cL_gets 162 = .ok (.istore 10, 2) := by decide +kernel
theorem dL_gets_164 : decode cL_gets 164 = .ok (.iload 6, 2) := by decide +kernel
theorem dL_gets_166 : decode cL_gets 166 = .ok (.ifCond .eq 28, 3) := by decide +kernel
theorem dL_gets_169 : decode cL_gets 169 = .ok (.aload_n 0, 1) := by decide +kernel
theorem dL_gets_170 : decode cL_gets 170 = .ok (.iload_n 1, 1) := by decide +kernel
theorem dL_gets_171 : decode cL_gets 171 = .ok (.iload 10, 2) := by decide +kernel
theorem dL_gets_173 : decode cL_gets 173 = .ok (.iload 9, 2) := by decide +kernel
theorem dL_gets_175 : decode cL_gets 175 = .ok (.invokevirtual 31, 3) := by decide +kernel
theorem dL_gets_178 : decode cL_gets 178 = .ok (.aload_n 2, 1) := by decide +kernel
theorem dL_gets_179 : decode cL_gets 179 = .ok (.iload_n 3, 1) := by decide +kernel
theorem dL_gets_180 : decode cL_gets 180 = .ok (.iload 10, 2) := by decide +kernel
theorem dL_gets_182 : decode cL_gets 182 = .ok (.iload 9, 2) := by decide +kernel
theorem dL_gets_184 : decode cL_gets 184 = .ok (.invokevirtual 31, 3) := by decide +kernel
theorem dL_gets_187 : decode cL_gets 187 = .ok (.if_icmp .ne 7, 3) := by decide +kernel
theorem dL_gets_190 : decode cL_gets 190 = .ok (.iconst 1, 1) := by decide +kernel
theorem dL_gets_191 : decode cL_gets 191 = .ok (.goto 4, 3) := by decide +kernel
theorem dL_gets_194 : decode cL_gets 194 = .ok (.iconst 0, 1) := by decide +kernel
theorem dL_gets_195 : decode cL_gets 195 = .ok (.istore 6, 2) := by decide +kernel
theorem dL_gets_197 : decode cL_gets 197 = .ok (.iinc 8 1, 3) := by decide +kernel
theorem dL_gets_200 : decode cL_gets 200 = .ok (.goto (-167), 3) := by decide +kernel
theorem dL_gets_203 : decode cL_gets 203 = .ok (.iload 6, 2) := by decide +kernel
theorem dL_gets_205 : decode cL_gets 205 = .ok (.ireturn, 1) := by decide +kernel
set_option maxRecDepth 20000 in
theorem ggL_isGrouped_L_gets : GoodIn wsL_isGrouped wsL_gets := goodIn_r _ [4, 5, 6, 7, 8, 9, 10, 11, 12, 13, 14, 15, 16, 17, 18, 19, 20, 21, 22, 23, 24, 25, 26, 27, 28, 29, 30, 31, 32, 33, 34, 35, 36, 37, 38, 39, 40, 41, 42, 43, 44, 45, 46, 47, 48, 49, 50, 51, 52, 53, 54, 55, 56, 57, 58, 59, 60, 61, 62, 63, 3, 64, 65, 66, 67, 68, 69, 70, 71, 72, 73, 74, 75, 76, 77, 78, 79, 80, 81, 82, 83, 84, 85, 86, 87, 88, 89, 90, 91, 92, 93, 144, 145, 146, 147, 148, 149, 150, 151, 152, 153, 154, 155, 156, 157, 158, 159, 160, 161, 162, 163, 164, 165, 166, 167, 168, 169] (by decide +kernel) (by decide +kernel)
set_option maxRecDepth 20000 in
theorem gL_isGrouped_L_gets : GoodIn wsL_isGrouped (va_wsS RL 35 yL_gets wsL_gets) := goodIn_app (goodIn_of _ (by decide +kernel)) ggL_isGrouped_L_gets
set_option maxRecDepth 20000 in
theorem ggL_isGrouped_X5_multiply : GoodIn wsL_isGrouped wsX5_multiply := goodIn_r _ [97, 10, 23, 11, 12, 8, 13, 14, 15, 16, 98, 99, 100, 101, 21, 22, 28, 24, 25, 26, 27, 102, 103, 104, 83, 105, 106, 107, 108, 109, 110, 111, 29, 30, 31, 32, 33, 34, 35, 36, 37, 38, 39, 40, 41, 42, 43, 44, 45, 46, 47, 48, 49, 50, 51, 52, 53, 54, 144, 145, 146, 147, 148, 149, 150, 151, 152, 153, 154, 155, 156, 157, 158, 159, 160, 161, 162, 163, 164, 165, 166, 167] (by decide +kernel) (by decide +kernel)
set_option maxRecDepth 20000 in
theorem gL_isGrouped_X5_multiply : GoodIn wsL_isGrouped (wsV RL 39 RX5 yX5_multiply wsX5_multiply) := goodIn_app (goodIn_of _ (by decide +kernel)) ggL_isGrouped_X5_multiply
set_option maxRecDepth 20000 in
theorem ggL_isGrouped_X5_sumOf : GoodIn wsL_isGrouped wsX5_sumOf := goodIn_r _ [115, 10, 11, 12, 8, 13, 14, 15, 16, 17, 18, 19, 20, 21, 22, 23, 116, 117, 118, 119, 120, 121, 122, 123, 124, 70, 125, 126, 127, 128, 129, 130, 53, 131, 132, 133, 134, 135, 136, 52, 54, 144, 145, 146, 147, 148, 149, 150, 151, 152, 153, 154, 155, 156, 157, 158, 159, 160, 161, 162, 163] (by decide +kernel) (by decide +kernel)
set_option maxRecDepth 20000 in
theorem gL_isGrouped_X5_sumOf : GoodIn wsL_isGrouped (wsV RL 42 RX5 yX5_sumOf wsX5_sumOf) := goodIn_app (goodIn_of _ (by decide +kernel)) ggL_isGrouped_X5_sumOf
set_option maxRecDepth 20000 in
theorem ggL_isGrouped_L_areSame : GoodIn wsL_isGrouped wsL_areSame := goodIn_r _ [139, 55, 56, 57, 8, 58, 21, 37, 22, 36, 59, 60, 61, 10, 140, 141, 142, 143, 23, 11, 12, 13, 14, 15, 16, 90, 91, 92, 93, 144, 145, 146, 147, 148, 149, 150, 151, 152, 153, 154, 155, 156, 157, 158, 159, 160, 161, 162, 163, 164, 165, 166, 167, 168, 169] (by decide +kernel) (by decide +kernel)
set_option maxRecDepth 20000 in
theorem gL_isGrouped_L_areSame : GoodIn wsL_isGrouped (va_wsS RL 45 yL_areSame wsL_areSame) := goodIn_app (goodIn_of _ (by decide +kernel)) ggL_isGrouped_L_areSame
theorem dL_isGrouped_0 : decode cL_isGrouped 0 = .ok (.aload_n 0, 1) := by decide +kernel
theorem dL_isGrouped_1 : decode cL_isGrouped 1 = .ok (.iconst 0, 1) := by decide +kernel
theorem dL_isGrouped_2 : decode cL_isGrouped 2 = .ok (.aload_n 1, 1) := by decide +kernel
theorem dL_isGrouped_3 : decode cL_isGrouped 3 = .ok (.iconst 0, 1) := by decide +kernel
theorem dL_isGrouped_4 : decode cL_isGrouped 4 = .ok (.iload_n 2, 1) := by decide +kernel
theorem dL_isGrouped_5 : decode cL_isGrouped 5 = .ok (.iload 5, 2) := by decide +kernel
theorem dL_isGrouped_7 : decode cL_isGrouped 7 = .ok (.invokestatic 35, 3) := by decide +kernel
theorem dL_isGrouped_10 : decode cL_isGrouped 10 = .ok (.ifCond .eq 52, 3) := by decide +kernel
theorem dL_isGrouped_13 : decode cL_isGrouped 13 = .ok (.aload_n 0, 1) := by decide +kernel
theorem dL_isGrouped_14 : decode cL_isGrouped 14 = .ok (.iconst 1, 1) := by decide +kernel
theorem dL_isGrouped_15 : decode cL_isGrouped 15 = .ok (.aload_n 1, 1) := by decide +kernel
theorem dL_isGrouped_16 : decode cL_isGrouped 16 = .ok (.iconst 1, 1) := by decide +kernel
theorem dL_isGrouped_17 : decode cL_isGrouped 17 = .ok (.iload_n 3, 1) := by decide +kernel
theorem dL_isGrouped_18 : decode cL_isGrouped 18 = .ok (.iload 5, 2) := by decide +kernel
theorem dL_isGrouped_20 : decode cL_isGrouped 20 = .ok (.invokestatic 35, 3) := by decide +kernel
theorem dL_isGrouped_23 : decode cL_isGrouped 23 = .ok (.ifCond .eq 39, 3) := by decide +kernel
theorem dL_isGrouped_26 : decode cL_isGrouped 26 = .ok (.aload_n 0, 1) := by decide +kernel
theorem dL_isGrouped_27 : decode cL_isGrouped 27 = .ok (.iconst 2, 1) := by decide +kernel
theorem dL_isGrouped_28 : decode cL_isGrouped 28 = .ok (.iconst 0, 1) := by decide +kernel
theorem dL_isGrouped_29 : decode cL_isGrouped 29 = .ok (.iconst 1, 1) := by decide +kernel
theorem dL_isGrouped_30 : decode cL_isGrouped 30 = .ok (.invokevirtual 39, 3) := by decide +kernel
theorem dL_isGrouped_33 : decode cL_isGrouped 33 = .ok (.ifCond .lt 29, 3) := by decide +kernel
theorem dL_isGrouped_36 : decode cL_isGrouped 36 = .ok (.aload_n 0, 1) := by decide +kernel
theorem dL_isGrouped_37 : decode cL_isGrouped 37 = .ok (.iconst 2, 1) := by decide +kernel
theorem dL_isGrouped_38 : decode cL_isGrouped 38 = .ok (.iconst 1, 1) := by decide +kernel
theorem dL_isGrouped_39 : decode cL_isGrouped 39 = .ok (.invokevirtual 42, 3) := by decide +kernel
theorem dL_isGrouped_42 : decode cL_isGrouped 42 = .ok (.aload_n 0, 1) := by decide +kernel
theorem dL_isGrouped_43 : decode cL_isGrouped 43 = .ok (.iconst 0, 1) := by decide +kernel
theorem dL_isGrouped_44 : decode cL_isGrouped 44 = .ok (.iconst 1, 1) := by decide +kernel
theorem dL_isGrouped_45 : decode cL_isGrouped 45 = .ok (.invokevirtual 42, 3) := by decide +kernel
theorem dL_isGrouped_48 : decode cL_isGrouped 48 = .ok (.aload_n 0, 1) := by decide +kernel
theorem dL_isGrouped_49 : decode cL_isGrouped 49 = .ok (.iconst 1, 1) := by decide +kernel
theorem dL_isGrouped_50 : decode cL_isGrouped 50 = .ok (.iconst 1, 1) := by decide +kernel
theorem dL_isGrouped_51 : decode cL_isGrouped 51 = .ok (.invokevirtual 42, 3) := by decide +kernel
theorem dL_isGrouped_54 : decode cL_isGrouped 54 = .ok (.imul, 1) := by decide +kernel
theorem dL_isGrouped_55 : decode cL_isGrouped 55 = .ok (.if_icmp .ne 7, 3) := by decide +kernel
theorem dL_isGrouped_58 : decode cL_isGrouped 58 = .ok (.iconst 1, 1) := by decide +kernel
theorem dL_isGrouped_59 : decode cL_isGrouped 59 = .ok (.goto 4, 3) := by decide +kernel
theorem dL_isGrouped_62 : decode cL_isGrouped 62 = .ok (.iconst 0, 1) := by decide +kernel
theorem dL_isGrouped_63 : decode cL_isGrouped 63 = .ok (.istore 6, 2) := by decide +kernel
theorem dL_isGrouped_65 : decode cL_isGrouped 65 = .ok (.iload 6, 2) := by decide +kernel
theorem dL_isGrouped_67 : decode cL_isGrouped 67 = .ok (.ifCond .eq 51, 3) := by decide +kernel
theorem dL_isGrouped_70 : decode cL_isGrouped 70 = .ok (.aload_n 0, 1) := by decide +kernel
theorem dL_isGrouped_71 : decode cL_isGrouped 71 = .ok (.iconst 0, 1) := by decide +kernel
theorem dL_isGrouped_72 : decode cL_isGrouped 72 = .ok (.aload_n 1, 1) := by decide +kernel
theorem dL_isGrouped_73 : decode cL_isGrouped 73 = .ok (.iconst 2, 1) := by decide +kernel
