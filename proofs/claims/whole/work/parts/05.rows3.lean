theorem dX5_settle_94 : decode cX5_settle 94 = .ok (.iinc 3 1, 3) := by decide +kernel
theorem dX5_settle_97 : decode cX5_settle 97 = .ok (.goto (-29), 3) := by decide +kernel
theorem dX5_settle_100 : decode cX5_settle 100 = .ok (.iload_n 2, 1) := by decide +kernel
theorem dX5_settle_101 : decode cX5_settle 101 = .ok (.ireturn, 1) := by decide +kernel
theorem dX5_termsMade_0 : decode cX5_termsMade 0 = .ok (.iconst 0, 1) := by decide +kernel
theorem dX5_termsMade_1 : decode cX5_termsMade 1 = .ok (.istore_n 1, 1) := by decide +kernel
theorem dX5_termsMade_2 : decode cX5_termsMade 2 = .ok (.iconst 0, 1) := by decide +kernel
theorem dX5_termsMade_3 : decode cX5_termsMade 3 = .ok (.istore_n 2, 1) := by decide +kernel
theorem dX5_termsMade_4 : decode cX5_termsMade 4 = .ok (.iload_n 2, 1) := by decide +kernel
theorem dX5_termsMade_5 : decode cX5_termsMade 5 = .ok (.aload_n 0, 1) := by decide +kernel
theorem dX5_termsMade_6 : decode cX5_termsMade 6 = .ok (.getfield 59, 3) := by decide +kernel
theorem dX5_termsMade_9 : decode cX5_termsMade 9 = .ok (.getfield 76, 3) := by decide +kernel
theorem dX5_termsMade_12 : decode cX5_termsMade 12 = .ok (.if_icmp .ge 23, 3) := by decide +kernel
theorem dX5_termsMade_15 : decode cX5_termsMade 15 = .ok (.aload_n 0, 1) := by decide +kernel
theorem dX5_termsMade_16 : decode cX5_termsMade 16 = .ok (.getfield 20, 3) := by decide +kernel
theorem dX5_termsMade_19 : decode cX5_termsMade 19 = .ok (.iload_n 2, 1) := by decide +kernel
theorem dX5_termsMade_20 : decode cX5_termsMade 20 = .ok (.laload, 1) := by decide +kernel
theorem dX5_termsMade_21 : decode cX5_termsMade 21 = .ok (.lconst 0, 1) := by decide +kernel
theorem dX5_termsMade_22 : decode cX5_termsMade 22 = .ok (.lcmp, 1) := by decide +kernel
theorem dX5_termsMade_23 : decode cX5_termsMade 23 = .ok (.ifCond .eq 6, 3) := by decide +kernel
theorem dX5_termsMade_26 : decode cX5_termsMade 26 = .ok (.iinc 1 1, 3) := by decide +kernel
theorem dX5_termsMade_29 : decode cX5_termsMade 29 = .ok (.iinc 2 1, 3) := by decide +kernel
theorem dX5_termsMade_32 : decode cX5_termsMade 32 = .ok (.goto (-28), 3) := by decide +kernel
theorem dX5_termsMade_35 : decode cX5_termsMade 35 = .ok (.iload_n 1, 1) := by decide +kernel
theorem dX5_termsMade_36 : decode cX5_termsMade 36 = .ok (.ireturn, 1) := by decide +kernel
theorem dX5_termsIn_0 : decode cX5_termsIn 0 = .ok (.iconst 0, 1) := by decide +kernel
theorem dX5_termsIn_1 : decode cX5_termsIn 1 = .ok (.istore_n 2, 1) := by decide +kernel
theorem dX5_termsIn_2 : decode cX5_termsIn 2 = .ok (.iconst 0, 1) := by decide +kernel
theorem dX5_termsIn_3 : decode cX5_termsIn 3 = .ok (.istore_n 3, 1) := by decide +kernel
theorem dX5_termsIn_4 : decode cX5_termsIn 4 = .ok (.iload_n 3, 1) := by decide +kernel
theorem dX5_termsIn_5 : decode cX5_termsIn 5 = .ok (.aload_n 0, 1) := by decide +kernel
theorem dX5_termsIn_6 : decode cX5_termsIn 6 = .ok (.getfield 59, 3) := by decide +kernel
theorem dX5_termsIn_9 : decode cX5_termsIn 9 = .ok (.getfield 76, 3) := by decide +kernel
theorem dX5_termsIn_12 : decode cX5_termsIn 12 = .ok (.if_icmp .ge 23, 3) := by decide +kernel
theorem dX5_termsIn_15 : decode cX5_termsIn 15 = .ok (.aload_n 0, 1) := by decide +kernel
theorem dX5_termsIn_16 : decode cX5_termsIn 16 = .ok (.getfield 17, 3) := by decide +kernel
theorem dX5_termsIn_19 : decode cX5_termsIn 19 = .ok (.iload_n 1, 1) := by decide +kernel
theorem dX5_termsIn_20 : decode cX5_termsIn 20 = .ok (.aaload, 1) := by decide +kernel
theorem dX5_termsIn_21 : decode cX5_termsIn 21 = .ok (.iload_n 3, 1) := by decide +kernel
theorem dX5_termsIn_22 : decode cX5_termsIn 22 = .ok (.iaload, 1) := by decide +kernel
theorem dX5_termsIn_23 : decode cX5_termsIn 23 = .ok (.ifCond .eq 6, 3) := by decide +kernel
theorem dX5_termsIn_26 : decode cX5_termsIn 26 = .ok (.iinc 2 1, 3) := by decide +kernel
theorem dX5_termsIn_29 : decode cX5_termsIn 29 = .ok (.iinc 3 1, 3) := by decide +kernel
theorem dX5_termsIn_32 : decode cX5_termsIn 32 = .ok (.goto (-28), 3) := by decide +kernel
theorem dX5_termsIn_35 : decode cX5_termsIn 35 = .ok (.iload_n 2, 1) := by decide +kernel
theorem dX5_termsIn_36 : decode cX5_termsIn 36 = .ok (.ireturn, 1) := by decide +kernel
theorem dX5_factorsAddedUp_0 : decode cX5_factorsAddedUp 0 = .ok (.iconst 0, 1) := by decide +kernel
theorem dX5_factorsAddedUp_1 : decode cX5_factorsAddedUp 1 = .ok (.istore_n 2, 1) := by decide +kernel
theorem dX5_factorsAddedUp_2 : decode cX5_factorsAddedUp 2 = .ok (.iconst 0, 1) := by decide +kernel
theorem dX5_factorsAddedUp_3 : decode cX5_factorsAddedUp 3 = .ok (.istore_n 3, 1) := by decide +kernel
theorem dX5_factorsAddedUp_4 : decode cX5_factorsAddedUp 4 = .ok (.iload_n 3, 1) := by decide +kernel
theorem dX5_factorsAddedUp_5 : decode cX5_factorsAddedUp 5 = .ok (.aload_n 0, 1) := by decide +kernel
theorem dX5_factorsAddedUp_6 : decode cX5_factorsAddedUp 6 = .ok (.getfield 59, 3) := by decide +kernel
theorem dX5_factorsAddedUp_9 : decode cX5_factorsAddedUp 9 = .ok (.getfield 76, 3) := by decide +kernel
theorem dX5_factorsAddedUp_12 : decode cX5_factorsAddedUp 12 = .ok (.if_icmp .ge 20, 3) := by decide +kernel
theorem dX5_factorsAddedUp_15 : decode cX5_factorsAddedUp 15 = .ok (.iload_n 2, 1) := by decide +kernel
theorem dX5_factorsAddedUp_16 : decode cX5_factorsAddedUp 16 = .ok (.aload_n 0, 1) := by decide +kernel
theorem dX5_factorsAddedUp_17 : decode cX5_factorsAddedUp 17 = .ok (.getfield 17, 3) := by decide +kernel
theorem dX5_factorsAddedUp_20 : decode cX5_factorsAddedUp 20 = .ok (.iload_n 1, 1) := by decide +kernel
theorem dX5_factorsAddedUp_21 : decode cX5_factorsAddedUp 21 = .ok (.aaload, 1) := by decide +kernel
theorem dX5_factorsAddedUp_22 : decode cX5_factorsAddedUp 22 = .ok (.iload_n 3, 1) := by decide +kernel
theorem dX5_factorsAddedUp_23 : decode cX5_factorsAddedUp 23 = .ok (.iaload, 1) := by decide +kernel
theorem dX5_factorsAddedUp_24 : decode cX5_factorsAddedUp 24 = .ok (.iadd, 1) := by decide +kernel
theorem dX5_factorsAddedUp_25 : decode cX5_factorsAddedUp 25 = .ok (.istore_n 2, 1) := by decide +kernel
theorem dX5_factorsAddedUp_26 : decode cX5_factorsAddedUp 26 = .ok (.iinc 3 1, 3) := by decide +kernel
theorem dX5_factorsAddedUp_29 : decode cX5_factorsAddedUp 29 = .ok (.goto (-25), 3) := by decide +kernel
theorem dX5_factorsAddedUp_32 : decode cX5_factorsAddedUp 32 = .ok (.iload_n 2, 1) := by decide +kernel
theorem dX5_factorsAddedUp_33 : decode cX5_factorsAddedUp 33 = .ok (.ireturn, 1) := by decide +kernel
theorem dX5_greatestIn_0 : decode cX5_greatestIn 0 = .ok (.aload_n 0, 1) := by decide +kernel
theorem dX5_greatestIn_1 : decode cX5_greatestIn 1 = .ok (.getfield 17, 3) := by decide +kernel
theorem dX5_greatestIn_4 : decode cX5_greatestIn 4 = .ok (.iload_n 1, 1) := by decide +kernel
theorem dX5_greatestIn_5 : decode cX5_greatestIn 5 = .ok (.aaload, 1) := by decide +kernel
theorem dX5_greatestIn_6 : decode cX5_greatestIn 6 = .ok (.iconst 0, 1) := by decide +kernel
theorem dX5_greatestIn_7 : decode cX5_greatestIn 7 = .ok (.iaload, 1) := by decide +kernel
theorem dX5_greatestIn_8 : decode cX5_greatestIn 8 = .ok (.istore_n 2, 1) := by decide +kernel
theorem dX5_greatestIn_9 : decode cX5_greatestIn 9 = .ok (.iconst 1, 1) := by decide +kernel
theorem dX5_greatestIn_10 : decode cX5_greatestIn 10 = .ok (.istore_n 3, 1) := by decide +kernel
theorem dX5_greatestIn_11 : decode cX5_greatestIn 11 = .ok (.iload_n 3, 1) := by decide +kernel
theorem dX5_greatestIn_12 : decode cX5_greatestIn 12 = .ok (.aload_n 0, 1) := by decide +kernel
theorem dX5_greatestIn_13 : decode cX5_greatestIn 13 = .ok (.getfield 59, 3) := by decide +kernel
theorem dX5_greatestIn_16 : decode cX5_greatestIn 16 = .ok (.getfield 76, 3) := by decide +kernel
theorem dX5_greatestIn_19 : decode cX5_greatestIn 19 = .ok (.if_icmp .ge 22, 3) := by decide +kernel
theorem dX5_greatestIn_22 : decode cX5_greatestIn 22 = .ok (.iload_n 2, 1) := by decide +kernel
theorem dX5_greatestIn_23 : decode cX5_greatestIn 23 = .ok (.aload_n 0, 1) := by decide +kernel
theorem dX5_greatestIn_24 : decode cX5_greatestIn 24 = .ok (.getfield 17, 3) := by decide +kernel
theorem dX5_greatestIn_27 : decode cX5_greatestIn 27 = .ok (.iload_n 1, 1) := by decide +kernel
theorem dX5_greatestIn_28 : decode cX5_greatestIn 28 = .ok (.aaload, 1) := by decide +kernel
theorem dX5_greatestIn_29 : decode cX5_greatestIn 29 = .ok (.iload_n 3, 1) := by decide +kernel
theorem dX5_greatestIn_30 : decode cX5_greatestIn 30 = .ok (.iaload, 1) := by decide +kernel
theorem dX5_greatestIn_31 : decode cX5_greatestIn 31 = .ok (.invokestatic 218, 3) := by decide +kernel
theorem dX5_greatestIn_34 : decode cX5_greatestIn 34 = .ok (.istore_n 2, 1) := by decide +kernel
theorem dX5_greatestIn_35 : decode cX5_greatestIn 35 = .ok (.iinc 3 1, 3) := by decide +kernel
theorem dX5_greatestIn_38 : decode cX5_greatestIn 38 = .ok (.goto (-27), 3) := by decide +kernel
theorem dX5_greatestIn_41 : decode cX5_greatestIn 41 = .ok (.iload_n 2, 1) := by decide +kernel
theorem dX5_greatestIn_42 : decode cX5_greatestIn 42 = .ok (.ireturn, 1) := by decide +kernel
theorem dX5_leastIn_0 : decode cX5_leastIn 0 = .ok (.aload_n 0, 1) := by decide +kernel
theorem dX5_leastIn_1 : decode cX5_leastIn 1 = .ok (.getfield 17, 3) := by decide +kernel
theorem dX5_leastIn_4 : decode cX5_leastIn 4 = .ok (.iload_n 1, 1) := by decide +kernel
theorem dX5_leastIn_5 : decode cX5_leastIn 5 = .ok (.aaload, 1) := by decide +kernel
theorem dX5_leastIn_6 : decode cX5_leastIn 6 = .ok (.iconst 0, 1) := by decide +kernel
theorem dX5_leastIn_7 : decode cX5_leastIn 7 = .ok (.iaload, 1) := by decide +kernel
theorem dX5_leastIn_8 : decode cX5_leastIn 8 = .ok (.istore_n 2, 1) := by decide +kernel
theorem dX5_leastIn_9 : decode cX5_leastIn 9 = .ok (.iconst 1, 1) := by decide +kernel
theorem dX5_leastIn_10 : decode cX5_leastIn 10 = .ok (.istore_n 3, 1) := by decide +kernel
theorem dX5_leastIn_11 : decode cX5_leastIn 11 = .ok (.iload_n 3, 1) := by decide +kernel
theorem dX5_leastIn_12 : decode cX5_leastIn 12 = .ok (.aload_n 0, 1) := by decide +kernel
theorem dX5_leastIn_13 : decode cX5_leastIn 13 = .ok (.getfield 59, 3) := by decide +kernel
theorem dX5_leastIn_16 : decode cX5_leastIn 16 = .ok (.getfield 76, 3) := by decide +kernel
theorem dX5_leastIn_19 : decode cX5_leastIn 19 = .ok (.if_icmp .ge 22, 3) := by decide +kernel
theorem dX5_leastIn_22 : decode cX5_leastIn 22 = .ok (.iload_n 2, 1) := by decide +kernel
theorem dX5_leastIn_23 : decode cX5_leastIn 23 = .ok (.aload_n 0, 1) := by decide +kernel
theorem dX5_leastIn_24 : decode cX5_leastIn 24 = .ok (.getfield 17, 3) := by decide +kernel
theorem dX5_leastIn_27 : decode cX5_leastIn 27 = .ok (.iload_n 1, 1) := by decide +kernel
theorem dX5_leastIn_28 : decode cX5_leastIn 28 = .ok (.aaload, 1) := by decide +kernel
theorem dX5_leastIn_29 : decode cX5_leastIn 29 = .ok (.iload_n 3, 1) := by decide +kernel
theorem dX5_leastIn_30 : decode cX5_leastIn 30 = .ok (.iaload, 1) := by decide +kernel
theorem dX5_leastIn_31 : decode cX5_leastIn 31 = .ok (.invokestatic 223, 3) := by decide +kernel
theorem dX5_leastIn_34 : decode cX5_leastIn 34 = .ok (.istore_n 2, 1) := by decide +kernel
theorem dX5_leastIn_35 : decode cX5_leastIn 35 = .ok (.iinc 3 1, 3) := by decide +kernel
theorem dX5_leastIn_38 : decode cX5_leastIn 38 = .ok (.goto (-27), 3) := by decide +kernel
theorem dX5_leastIn_41 : decode cX5_leastIn 41 = .ok (.iload_n 2, 1) := by decide +kernel
theorem dX5_leastIn_42 : decode cX5_leastIn 42 = .ok (.ireturn, 1) := by decide +kernel
theorem dX5_goesByDescents_0 : decode cX5_goesByDescents 0 = .ok (.iconst 0, 1) := by decide +kernel
theorem dX5_goesByDescents_1 : decode cX5_goesByDescents 1 = .ok (.istore_n 2, 1) := by decide +kernel
theorem dX5_goesByDescents_2 : decode cX5_goesByDescents 2 = .ok (.iload_n 2, 1) := by decide +kernel
theorem dX5_goesByDescents_3 : decode cX5_goesByDescents 3 = .ok (.aload_n 0, 1) := by decide +kernel
theorem dX5_goesByDescents_4 : decode cX5_goesByDescents 4 = .ok (.getfield 59, 3) := by decide +kernel
theorem dX5_goesByDescents_7 : decode cX5_goesByDescents 7 = .ok (.getfield 76, 3) := by decide +kernel
theorem dX5_goesByDescents_10 : decode cX5_goesByDescents 10 = .ok (.if_icmp .ge 46, 3) := by decide +kernel
theorem dX5_goesByDescents_13 : decode cX5_goesByDescents 13 = .ok (.aload_n 0, 1) := by decide +kernel
theorem dX5_goesByDescents_14 : decode cX5_goesByDescents 14 = .ok (.getfield 17, 3) := by decide +kernel
theorem dX5_goesByDescents_17 : decode cX5_goesByDescents 17 = .ok (.iload_n 1, 1) := by decide +kernel
theorem dX5_goesByDescents_18 : decode cX5_goesByDescents 18 = .ok (.aaload, 1) := by decide +kernel
theorem dX5_goesByDescents_19 : decode cX5_goesByDescents 19 = .ok (.iload_n 2, 1) := by decide +kernel
theorem dX5_goesByDescents_20 : decode cX5_goesByDescents 20 = .ok (.iaload, 1) := by decide +kernel
theorem dX5_goesByDescents_21 : decode cX5_goesByDescents 21 = .ok (.aload_n 0, 1) := by decide +kernel
theorem dX5_goesByDescents_22 : decode cX5_goesByDescents 22 = .ok (.getfield 17, 3) := by decide +kernel
theorem dX5_goesByDescents_25 : decode cX5_goesByDescents 25 = .ok (.iload_n 1, 1) := by decide +kernel
theorem dX5_goesByDescents_26 : decode cX5_goesByDescents 26 = .ok (.aaload, 1) := by decide +kernel
theorem dX5_goesByDescents_27 : decode cX5_goesByDescents 27 = .ok (.aload_n 0, 1) := by decide +kernel
theorem dX5_goesByDescents_28 : decode cX5_goesByDescents 28 = .ok (.getfield 59, 3) := by decide +kernel
theorem dX5_goesByDescents_31 : decode cX5_goesByDescents 31 = .ok (.getfield 167, 3) := by decide +kernel
theorem dX5_goesByDescents_34 : decode cX5_goesByDescents 34 = .ok (.aload_n 0, 1) := by decide +kernel
theorem dX5_goesByDescents_35 : decode cX5_goesByDescents 35 = .ok (.getfield 59, 3) := by decide +kernel
theorem dX5_goesByDescents_38 : decode cX5_goesByDescents 38 = .ok (.getfield 101, 3) := by decide +kernel
theorem dX5_goesByDescents_41 : decode cX5_goesByDescents 41 = .ok (.iload_n 2, 1) := by decide +kernel
theorem dX5_goesByDescents_42 : decode cX5_goesByDescents 42 = .ok (.iaload, 1) := by decide +kernel
theorem dX5_goesByDescents_43 : decode cX5_goesByDescents 43 = .ok (.iaload, 1) := by decide +kernel
theorem dX5_goesByDescents_44 : decode cX5_goesByDescents 44 = .ok (.iaload, 1) := by decide +kernel
theorem dX5_goesByDescents_45 : decode cX5_goesByDescents 45 = .ok (.if_icmp .eq 5, 3) := by decide +kernel
theorem dX5_goesByDescents_48 : decode cX5_goesByDescents 48 = .ok (.iconst 0, 1) := by decide +kernel
theorem dX5_goesByDescents_49 : decode cX5_goesByDescents 49 = .ok (.ireturn, 1) := by decide +kernel
theorem dX5_goesByDescents_50 : decode cX5_goesByDescents 50 = .ok (.iinc 2 1, 3) := by decide +kernel
theorem dX5_goesByDescents_53 : decode cX5_goesByDescents 53 = .ok (.goto (-51), 3) := by decide +kernel
theorem dX5_goesByDescents_56 : decode cX5_goesByDescents 56 = .ok (.iconst 1, 1) := by decide +kernel
theorem dX5_goesByDescents_57 : decode cX5_goesByDescents 57 = .ok (.ireturn, 1) := by decide +kernel
set_option maxRecDepth 20000 in
theorem ggX5_wideFactor_J6_bitCount_0f7a4 : GoodIn wsX5_wideFactor wsJ6_bitCount_0f7a4 := goodIn_r _ [7, 8, 9, 10] (by decide +kernel) (by decide +kernel)
set_option maxRecDepth 20000 in
theorem gX5_wideFactor_J6_bitCount_0f7a4 : GoodIn wsX5_wideFactor (va_wsS RX5 226 yJ6_bitCount_0f7a4 wsJ6_bitCount_0f7a4) := goodIn_app (goodIn_of _ (by decide +kernel)) ggX5_wideFactor_J6_bitCount_0f7a4
theorem dX5_wideFactor_0 : decode cX5_wideFactor 0 = .ok (.lconst 0, 1) := by decide +kernel
theorem dX5_wideFactor_1 : decode cX5_wideFactor 1 = .ok (.lstore_n 2, 1) := by decide +kernel
theorem dX5_wideFactor_2 : decode cX5_wideFactor 2 = .ok (.iconst 0, 1) := by decide +kernel
theorem dX5_wideFactor_3 : decode cX5_wideFactor 3 = .ok (.istore 4, 2) := by decide +kernel
theorem dX5_wideFactor_5 : decode cX5_wideFactor 5 = .ok (.iload 4, 2) := by decide +kernel
theorem dX5_wideFactor_7 : decode cX5_wideFactor 7 = .ok (.aload_n 0, 1) := by decide +kernel
theorem dX5_wideFactor_8 : decode cX5_wideFactor 8 = .ok (.getfield 59, 3) := by decide +kernel
theorem dX5_wideFactor_11 : decode cX5_wideFactor 11 = .ok (.getfield 170, 3) := by decide +kernel
theorem dX5_wideFactor_14 : decode cX5_wideFactor 14 = .ok (.if_icmp .ge 63, 3) := by decide +kernel
theorem dX5_wideFactor_17 : decode cX5_wideFactor 17 = .ok (.iload 4, 2) := by decide +kernel
theorem dX5_wideFactor_19 : decode cX5_wideFactor 19 = .ok (.iload_n 1, 1) := by decide +kernel
theorem dX5_wideFactor_20 : decode cX5_wideFactor 20 = .ok (.iand, 1) := by decide +kernel
theorem dX5_wideFactor_21 : decode cX5_wideFactor 21 = .ok (.iload_n 1, 1) := by decide +kernel
theorem dX5_wideFactor_22 : decode cX5_wideFactor 22 = .ok (.if_icmp .ne 49, 3) := by decide +kernel
theorem dX5_wideFactor_25 : decode cX5_wideFactor 25 = .ok (.iload 4, 2) := by decide +kernel
theorem dX5_wideFactor_27 : decode cX5_wideFactor 27 = .ok (.iload_n 1, 1) := by decide +kernel
theorem dX5_wideFactor_28 : decode cX5_wideFactor 28 = .ok (.ixor, 1) := by decide +kernel
theorem dX5_wideFactor_29 : decode cX5_wideFactor 29 = .ok (.invokestatic 226, 3) := by decide +kernel
theorem dX5_wideFactor_32 : decode cX5_wideFactor 32 = .ok (.iconst 1, 1) := by decide +kernel
theorem dX5_wideFactor_33 : decode cX5_wideFactor 33 = .ok (.iand, 1) := by decide +kernel
theorem dX5_wideFactor_34 : decode cX5_wideFactor 34 = .ok (.iconst 1, 1) := by decide +kernel
theorem dX5_wideFactor_35 : decode cX5_wideFactor 35 = .ok (.if_icmp .ne 7, 3) := by decide +kernel
theorem dX5_wideFactor_38 : decode cX5_wideFactor 38 = .ok (.iconst 1, 1) := by decide +kernel
theorem dX5_wideFactor_39 : decode cX5_wideFactor 39 = .ok (.goto 4, 3) := by decide +kernel
theorem dX5_wideFactor_42 : decode cX5_wideFactor 42 = .ok (.iconst 0, 1) := by decide +kernel
theorem dX5_wideFactor_43 : decode cX5_wideFactor 43 = .ok (.istore 5, 2) := by decide +kernel
theorem dX5_wideFactor_45 : decode cX5_wideFactor 45 = .ok (.lload_n 2, 1) := by decide +kernel
theorem dX5_wideFactor_46 : decode cX5_wideFactor 46 = .ok (.iload 5, 2) := by decide +kernel
theorem dX5_wideFactor_48 : decode cX5_wideFactor 48 = .ok (.ifCond .eq 14, 3) := by decide +kernel
theorem dX5_wideFactor_51 : decode cX5_wideFactor 51 = .ok (.aload_n 0, 1) := by decide +kernel
theorem dX5_wideFactor_52 : decode cX5_wideFactor 52 = .ok (.getfield 24, 3) := by decide +kernel
theorem dX5_wideFactor_55 : decode cX5_wideFactor 55 = .ok (.iload 4, 2) := by decide +kernel
theorem dX5_wideFactor_57 : decode cX5_wideFactor 57 = .ok (.laload, 1) := by decide +kernel
theorem dX5_wideFactor_58 : decode cX5_wideFactor 58 = .ok (.lneg, 1) := by decide +kernel
theorem dX5_wideFactor_59 : decode cX5_wideFactor 59 = .ok (.goto 10, 3) := by decide +kernel
theorem dX5_wideFactor_62 : decode cX5_wideFactor 62 = .ok (.aload_n 0, 1) := by decide +kernel
theorem dX5_wideFactor_63 : decode cX5_wideFactor 63 = .ok (.getfield 24, 3) := by decide +kernel
theorem dX5_wideFactor_66 : decode cX5_wideFactor 66 = .ok (.iload 4, 2) := by decide +kernel
theorem dX5_wideFactor_68 : decode cX5_wideFactor 68 = .ok (.laload, 1) := by decide +kernel
theorem dX5_wideFactor_69 : decode cX5_wideFactor 69 = .ok (.ladd, 1) := by decide +kernel
theorem dX5_wideFactor_70 : decode cX5_wideFactor 70 = .ok (.lstore_n 2, 1) := by decide +kernel
theorem dX5_wideFactor_71 : decode cX5_wideFactor 71 = .ok (.iinc 4 1, 3) := by decide +kernel
theorem dX5_wideFactor_74 : decode cX5_wideFactor 74 = .ok (.goto (-69), 3) := by decide +kernel
theorem dX5_wideFactor_77 : decode cX5_wideFactor 77 = .ok (.lload_n 2, 1) := by decide +kernel
theorem dX5_wideFactor_78 : decode cX5_wideFactor 78 = .ok (.l2i, 1) := by decide +kernel
theorem dX5_wideFactor_79 : decode cX5_wideFactor 79 = .ok (.ireturn, 1) := by decide +kernel
set_option maxRecDepth 20000 in
theorem ggX5_timesInProduct_X1_isInWideClass : GoodIn wsX5_timesInProduct wsX1_isInWideClass := goodIn_r _ [8, 9, 25, 26, 27, 28, 29, 30, 31, 32, 33, 34, 35] (by decide +kernel) (by decide +kernel)
set_option maxRecDepth 20000 in
theorem gX5_timesInProduct_X1_isInWideClass : GoodIn wsX5_timesInProduct (wsV RX5 97 RX1 yX1_isInWideClass wsX1_isInWideClass) := goodIn_app (goodIn_of _ (by decide +kernel)) ggX5_timesInProduct_X1_isInWideClass
set_option maxRecDepth 20000 in
theorem ggX5_timesInProduct_X1_times : GoodIn wsX5_timesInProduct wsX1_times := goodIn_r _ [13, 14, 15, 25, 26, 27, 28, 29, 30, 31, 32, 33, 34, 35] (by decide +kernel) (by decide +kernel)
set_option maxRecDepth 20000 in
theorem gX5_timesInProduct_X1_times : GoodIn wsX5_timesInProduct (wsV RX5 151 RX1 yX1_times wsX1_times) := goodIn_app (goodIn_of _ (by decide +kernel)) ggX5_timesInProduct_X1_times
theorem dX5_timesInProduct_0 : decode cX5_timesInProduct 0 = .ok (.iconst 0, 1) := by decide +kernel
theorem dX5_timesInProduct_1 : decode cX5_timesInProduct 1 = .ok (.istore 4, 2) := by decide +kernel
theorem dX5_timesInProduct_3 : decode cX5_timesInProduct 3 = .ok (.iconst 0, 1) := by decide +kernel
theorem dX5_timesInProduct_4 : decode cX5_timesInProduct 4 = .ok (.istore 5, 2) := by decide +kernel
theorem dX5_timesInProduct_6 : decode cX5_timesInProduct 6 = .ok (.iload 5, 2) := by decide +kernel
theorem dX5_timesInProduct_8 : decode cX5_timesInProduct 8 = .ok (.aload_n 0, 1) := by decide +kernel
theorem dX5_timesInProduct_9 : decode cX5_timesInProduct 9 = .ok (.getfield 59, 3) := by decide +kernel
theorem dX5_timesInProduct_12 : decode cX5_timesInProduct 12 = .ok (.getfield 76, 3) := by decide +kernel
theorem dX5_timesInProduct_15 : decode cX5_timesInProduct 15 = .ok (.if_icmp .ge 54, 3) := by decide +kernel
theorem dX5_timesInProduct_18 : decode cX5_timesInProduct 18 = .ok (.aload_n 0, 1) := by decide +kernel
theorem dX5_timesInProduct_19 : decode cX5_timesInProduct 19 = .ok (.getfield 59, 3) := by decide +kernel
theorem dX5_timesInProduct_22 : decode cX5_timesInProduct 22 = .ok (.iload 5, 2) := by decide +kernel
theorem dX5_timesInProduct_24 : decode cX5_timesInProduct 24 = .ok (.iload_n 2, 1) := by decide +kernel
theorem dX5_timesInProduct_25 : decode cX5_timesInProduct 25 = .ok (.invokevirtual 97, 3) := by decide +kernel
theorem dX5_timesInProduct_28 : decode cX5_timesInProduct 28 = .ok (.ifCond .eq 35, 3) := by decide +kernel
theorem dX5_timesInProduct_31 : decode cX5_timesInProduct 31 = .ok (.aload_n 0, 1) := by decide +kernel
theorem dX5_timesInProduct_32 : decode cX5_timesInProduct 32 = .ok (.getfield 59, 3) := by decide +kernel
theorem dX5_timesInProduct_35 : decode cX5_timesInProduct 35 = .ok (.aload_n 0, 1) := by decide +kernel
theorem dX5_timesInProduct_36 : decode cX5_timesInProduct 36 = .ok (.getfield 59, 3) := by decide +kernel
theorem dX5_timesInProduct_39 : decode cX5_timesInProduct 39 = .ok (.iload_n 3, 1) := by decide +kernel
theorem dX5_timesInProduct_40 : decode cX5_timesInProduct 40 = .ok (.aload_n 0, 1) := by decide +kernel
theorem dX5_timesInProduct_41 : decode cX5_timesInProduct 41 = .ok (.getfield 59, 3) := by decide +kernel
theorem dX5_timesInProduct_44 : decode cX5_timesInProduct 44 = .ok (.getfield 142, 3) := by decide +kernel
theorem dX5_timesInProduct_47 : decode cX5_timesInProduct 47 = .ok (.iload 5, 2) := by decide +kernel
theorem dX5_timesInProduct_49 : decode cX5_timesInProduct 49 = .ok (.iaload, 1) := by decide +kernel
theorem dX5_timesInProduct_50 : decode cX5_timesInProduct 50 = .ok (.invokevirtual 151, 3) := by decide +kernel
theorem dX5_timesInProduct_53 : decode cX5_timesInProduct 53 = .ok (.iload_n 1, 1) := by decide +kernel
theorem dX5_timesInProduct_54 : decode cX5_timesInProduct 54 = .ok (.invokevirtual 97, 3) := by decide +kernel
theorem dX5_timesInProduct_57 : decode cX5_timesInProduct 57 = .ok (.ifCond .eq 6, 3) := by decide +kernel
theorem dX5_timesInProduct_60 : decode cX5_timesInProduct 60 = .ok (.iinc 4 1, 3) := by decide +kernel
theorem dX5_timesInProduct_63 : decode cX5_timesInProduct 63 = .ok (.iinc 5 1, 3) := by decide +kernel
theorem dX5_timesInProduct_66 : decode cX5_timesInProduct 66 = .ok (.goto (-60), 3) := by decide +kernel
theorem dX5_timesInProduct_69 : decode cX5_timesInProduct 69 = .ok (.iload 4, 2) := by decide +kernel
theorem dX5_timesInProduct_71 : decode cX5_timesInProduct 71 = .ok (.ireturn, 1) := by decide +kernel
theorem dX6_init_0 : decode cX6_init 0 = .ok (.aload_n 0, 1) := by decide +kernel
theorem dX6_init_1 : decode cX6_init 1 = .ok (.invokespecial 1, 3) := by decide +kernel
theorem dX6_init_4 : decode cX6_init 4 = .ok (.aload_n 0, 1) := by decide +kernel
theorem dX6_init_5 : decode cX6_init 5 = .ok (.sipush 364, 3) := by decide +kernel
theorem dX6_init_8 : decode cX6_init 8 = .ok (.newarray .int, 2) := by decide +kernel
theorem dX6_init_10 : decode cX6_init 10 = .ok (.putfield 7, 3) := by decide +kernel
theorem dX6_init_13 : decode cX6_init 13 = .ok (.aload_n 0, 1) := by decide +kernel
theorem dX6_init_14 : decode cX6_init 14 = .ok (.sipush 1456, 3) := by decide +kernel
theorem dX6_init_17 : decode cX6_init 17 = .ok (.newarray .int, 2) := by decide +kernel
theorem dX6_init_19 : decode cX6_init 19 = .ok (.putfield 13, 3) := by decide +kernel
theorem dX6_init_22 : decode cX6_init 22 = .ok (.aload_n 0, 1) := by decide +kernel
theorem dX6_init_23 : decode cX6_init 23 = .ok (.iconst 5, 1) := by decide +kernel
theorem dX6_init_24 : decode cX6_init 24 = .ok (.newarray .int, 2) := by decide +kernel
theorem dX6_init_26 : decode cX6_init 26 = .ok (.putfield 16, 3) := by decide +kernel
theorem dX6_init_29 : decode cX6_init 29 = .ok (.aload_n 0, 1) := by decide +kernel
theorem dX6_init_30 : decode cX6_init 30 = .ok (.sipush 600, 3) := by decide +kernel
theorem dX6_init_33 : decode cX6_init 33 = .ok (.newarray .int, 2) := by decide +kernel
theorem dX6_init_35 : decode cX6_init 35 = .ok (.putfield 19, 3) := by decide +kernel
theorem dX6_init_38 : decode cX6_init 38 = .ok (.aload_n 0, 1) := by decide +kernel
theorem dX6_init_39 : decode cX6_init 39 = .ok (.bipush 120, 2) := by decide +kernel
theorem dX6_init_41 : decode cX6_init 41 = .ok (.newarray .long, 2) := by decide +kernel
theorem dX6_init_43 : decode cX6_init 43 = .ok (.putfield 22, 3) := by decide +kernel
theorem dX6_init_46 : decode cX6_init 46 = .ok (.aload_n 0, 1) := by decide +kernel
theorem dX6_init_47 : decode cX6_init 47 = .ok (.iconst 5, 1) := by decide +kernel
theorem dX6_init_48 : decode cX6_init 48 = .ok (.newarray .int, 2) := by decide +kernel
theorem dX6_init_50 : decode cX6_init 50 = .ok (.putfield 26, 3) := by decide +kernel
theorem dX6_init_53 : decode cX6_init 53 = .ok (.aload_n 0, 1) := by decide +kernel
theorem dX6_init_54 : decode cX6_init 54 = .ok (.iconst 5, 1) := by decide +kernel
theorem dX6_init_55 : decode cX6_init 55 = .ok (.newarray .int, 2) := by decide +kernel
theorem dX6_init_57 : decode cX6_init 57 = .ok (.putfield 29, 3) := by decide +kernel
theorem dX6_init_60 : decode cX6_init 60 = .ok (.aload_n 0, 1) := by decide +kernel
theorem dX6_init_61 : decode cX6_init 61 = .ok (.bipush 16, 2) := by decide +kernel
theorem dX6_init_63 : decode cX6_init 63 = .ok (.newarray .long, 2) := by decide +kernel
theorem dX6_init_65 : decode cX6_init 65 = .ok (.putfield 32, 3) := by decide +kernel
theorem dX6_init_68 : decode cX6_init 68 = .ok (.aload_n 0, 1) := by decide +kernel
theorem dX6_init_69 : decode cX6_init 69 = .ok (.bipush 16, 2) := by decide +kernel
theorem dX6_init_71 : decode cX6_init 71 = .ok (.newarray .int, 2) := by decide +kernel
theorem dX6_init_73 : decode cX6_init 73 = .ok (.putfield 35, 3) := by decide +kernel
theorem dX6_init_76 : decode cX6_init 76 = .ok (.aload_n 0, 1) := by decide +kernel
theorem dX6_init_77 : decode cX6_init 77 = .ok (.iconst 5, 1) := by decide +kernel
theorem dX6_init_78 : decode cX6_init 78 = .ok (.newarray .int, 2) := by decide +kernel
theorem dX6_init_80 : decode cX6_init 80 = .ok (.putfield 38, 3) := by decide +kernel
theorem dX6_init_83 : decode cX6_init 83 = .ok (.aload_n 0, 1) := by decide +kernel
theorem dX6_init_84 : decode cX6_init 84 = .ok (.iconst 5, 1) := by decide +kernel
theorem dX6_init_85 : decode cX6_init 85 = .ok (.newarray .int, 2) := by decide +kernel
theorem dX6_init_87 : decode cX6_init 87 = .ok (.putfield 41, 3) := by decide +kernel
theorem dX6_init_90 : decode cX6_init 90 = .ok (.aload_n 0, 1) := by decide +kernel
theorem dX6_init_91 : decode cX6_init 91 = .ok (.bipush 25, 2) := by decide +kernel
theorem dX6_init_93 : decode cX6_init 93 = .ok (.newarray .int, 2) := by decide +kernel
theorem dX6_init_95 : decode cX6_init 95 = .ok (.putfield 44, 3) := by decide +kernel
theorem dX6_init_98 : decode cX6_init 98 = .ok (.aload_n 0, 1) := by decide +kernel
theorem dX6_init_99 : decode cX6_init 99 = .ok (.bipush 60, 2) := by decide +kernel
theorem dX6_init_101 : decode cX6_init 101 = .ok (.newarray .int, 2) := by decide +kernel
theorem dX6_init_103 : decode cX6_init 103 = .ok (.putfield 47, 3) := by decide +kernel
theorem dX6_init_106 : decode cX6_init 106 = .ok (.aload_n 0, 1) := by decide +kernel
theorem dX6_init_107 : decode cX6_init 107 = .ok (.getfield 7, 3) := by decide +kernel
theorem dX6_init_110 : decode cX6_init 110 = .ok (.iconst 0, 1) := by decide +kernel
theorem dX6_init_111 : decode cX6_init 111 = .ok (.iconst 3, 1) := by decide +kernel
theorem dX6_init_112 : decode cX6_init 112 = .ok (.iastore, 1) := by decide +kernel
theorem dX6_init_113 : decode cX6_init 113 = .ok (.return_, 1) := by decide +kernel
theorem dX6_in_0 : decode cX6_in 0 = .ok (.lload_n 0, 1) := by decide +kernel
theorem dX6_in_1 : decode cX6_in 1 = .ok (.lload_n 2, 1) := by decide +kernel
theorem dX6_in_2 : decode cX6_in 2 = .ok (.lcmp, 1) := by decide +kernel
theorem dX6_in_3 : decode cX6_in 3 = .ok (.ifCond .lt 14, 3) := by decide +kernel
theorem dX6_in_6 : decode cX6_in 6 = .ok (.lload_n 0, 1) := by decide +kernel
theorem dX6_in_7 : decode cX6_in 7 = .ok (.lload 4, 2) := by decide +kernel
theorem dX6_in_9 : decode cX6_in 9 = .ok (.lcmp, 1) := by decide +kernel
theorem dX6_in_10 : decode cX6_in 10 = .ok (.ifCond .gt 7, 3) := by decide +kernel
theorem dX6_in_13 : decode cX6_in 13 = .ok (.iconst 1, 1) := by decide +kernel
theorem dX6_in_14 : decode cX6_in 14 = .ok (.goto 4, 3) := by decide +kernel
theorem dX6_in_17 : decode cX6_in 17 = .ok (.iconst 0, 1) := by decide +kernel
theorem dX6_in_18 : decode cX6_in 18 = .ok (.ireturn, 1) := by decide +kernel
theorem dX6_record_0 : decode cX6_record 0 = .ok (.aload_n 0, 1) := by decide +kernel
theorem dX6_record_1 : decode cX6_record 1 = .ok (.getfield 50, 3) := by decide +kernel
theorem dX6_record_4 : decode cX6_record 4 = .ok (.iconst 4, 1) := by decide +kernel
theorem dX6_record_5 : decode cX6_record 5 = .ok (.if_icmp .ne 44, 3) := by decide +kernel
theorem dX6_record_8 : decode cX6_record 8 = .ok (.iconst 0, 1) := by decide +kernel
theorem dX6_record_9 : decode cX6_record 9 = .ok (.istore_n 1, 1) := by decide +kernel
theorem dX6_record_10 : decode cX6_record 10 = .ok (.iload_n 1, 1) := by decide +kernel
theorem dX6_record_11 : decode cX6_record 11 = .ok (.sipush 1092, 3) := by decide +kernel
theorem dX6_record_14 : decode cX6_record 14 = .ok (.if_icmp .ge 25, 3) := by decide +kernel
theorem dX6_record_17 : decode cX6_record 17 = .ok (.aload_n 0, 1) := by decide +kernel
theorem dX6_record_18 : decode cX6_record 18 = .ok (.getfield 13, 3) := by decide +kernel
theorem dX6_record_21 : decode cX6_record 21 = .ok (.iload_n 1, 1) := by decide +kernel
theorem dX6_record_22 : decode cX6_record 22 = .ok (.aload_n 0, 1) := by decide +kernel
theorem dX6_record_23 : decode cX6_record 23 = .ok (.getfield 13, 3) := by decide +kernel
theorem dX6_record_26 : decode cX6_record 26 = .ok (.iload_n 1, 1) := by decide +kernel
theorem dX6_record_27 : decode cX6_record 27 = .ok (.sipush 364, 3) := by decide +kernel
theorem dX6_record_30 : decode cX6_record 30 = .ok (.iadd, 1) := by decide +kernel
theorem dX6_record_31 : decode cX6_record 31 = .ok (.iaload, 1) := by decide +kernel
theorem dX6_record_32 : decode cX6_record 32 = .ok (.iastore, 1) := by decide +kernel
theorem dX6_record_33 : decode cX6_record 33 = .ok (.iinc 1 1, 3) := by decide +kernel
theorem dX6_record_36 : decode cX6_record 36 = .ok (.goto (-26), 3) := by decide +kernel
theorem dX6_record_39 : decode cX6_record 39 = .ok (.aload_n 0, 1) := by decide +kernel
theorem dX6_record_40 : decode cX6_record 40 = .ok (.dup, 1) := by decide +kernel
theorem dX6_record_41 : decode cX6_record 41 = .ok (.getfield 50, 3) := by decide +kernel
theorem dX6_record_44 : decode cX6_record 44 = .ok (.iconst 1, 1) := by decide +kernel
theorem dX6_record_45 : decode cX6_record 45 = .ok (.isub, 1) := by decide +kernel
theorem dX6_record_46 : decode cX6_record 46 = .ok (.putfield 50, 3) := by decide +kernel
theorem dX6_record_49 : decode cX6_record 49 = .ok (.iconst 0, 1) := by decide +kernel
theorem dX6_record_50 : decode cX6_record 50 = .ok (.istore_n 1, 1) := by decide +kernel
theorem dX6_record_51 : decode cX6_record 51 = .ok (.iload_n 1, 1) := by decide +kernel
theorem dX6_record_52 : decode cX6_record 52 = .ok (.sipush 364, 3) := by decide +kernel
theorem dX6_record_55 : decode cX6_record 55 = .ok (.if_icmp .ge 30, 3) := by decide +kernel
theorem dX6_record_58 : decode cX6_record 58 = .ok (.aload_n 0, 1) := by decide +kernel
theorem dX6_record_59 : decode cX6_record 59 = .ok (.getfield 13, 3) := by decide +kernel
theorem dX6_record_62 : decode cX6_record 62 = .ok (.sipush 364, 3) := by decide +kernel
theorem dX6_record_65 : decode cX6_record 65 = .ok (.aload_n 0, 1) := by decide +kernel
theorem dX6_record_66 : decode cX6_record 66 = .ok (.getfield 50, 3) := by decide +kernel
theorem dX6_record_69 : decode cX6_record 69 = .ok (.imul, 1) := by decide +kernel
theorem dX6_record_70 : decode cX6_record 70 = .ok (.iload_n 1, 1) := by decide +kernel
theorem dX6_record_71 : decode cX6_record 71 = .ok (.iadd, 1) := by decide +kernel
theorem dX6_record_72 : decode cX6_record 72 = .ok (.aload_n 0, 1) := by decide +kernel
theorem dX6_record_73 : decode cX6_record 73 = .ok (.getfield 7, 3) := by decide +kernel
theorem dX6_record_76 : decode cX6_record 76 = .ok (.iload_n 1, 1) := by decide +kernel
theorem dX6_record_77 : decode cX6_record 77 = .ok (.iaload, 1) := by decide +kernel
theorem dX6_record_78 : decode cX6_record 78 = .ok (.iastore, 1) := by decide +kernel
theorem dX6_record_79 : decode cX6_record 79 = .ok (.iinc 1 1, 3) := by decide +kernel
theorem dX6_record_82 : decode cX6_record 82 = .ok (.goto (-31), 3) := by decide +kernel
theorem dX6_record_85 : decode cX6_record 85 = .ok (.aload_n 0, 1) := by decide +kernel
theorem dX6_record_86 : decode cX6_record 86 = .ok (.dup, 1) := by decide +kernel
theorem dX6_record_87 : decode cX6_record 87 = .ok (.getfield 50, 3) := by decide +kernel
theorem dX6_record_90 : decode cX6_record 90 = .ok (.iconst 1, 1) := by decide +kernel
theorem dX6_record_91 : decode cX6_record 91 = .ok (.iadd, 1) := by decide +kernel
theorem dX6_record_92 : decode cX6_record 92 = .ok (.putfield 50, 3) := by decide +kernel
theorem dX6_record_95 : decode cX6_record 95 = .ok (.return_, 1) := by decide +kernel
theorem dX6_ordersOf_0 : decode cX6_ordersOf 0 = .ok (.iconst 1, 1) := by decide +kernel
theorem dX6_ordersOf_1 : decode cX6_ordersOf 1 = .ok (.istore_n 1, 1) := by decide +kernel
theorem dX6_ordersOf_2 : decode cX6_ordersOf 2 = .ok (.iconst 2, 1) := by decide +kernel
theorem dX6_ordersOf_3 : decode cX6_ordersOf 3 = .ok (.istore_n 2, 1) := by decide +kernel
theorem dX6_ordersOf_4 : decode cX6_ordersOf 4 = .ok (.iload_n 2, 1) := by decide +kernel
theorem dX6_ordersOf_5 : decode cX6_ordersOf 5 = .ok (.iload_n 0, 1) := by decide +kernel
theorem dX6_ordersOf_6 : decode cX6_ordersOf 6 = .ok (.if_icmp .gt 13, 3) := by decide +kernel
theorem dX6_ordersOf_9 : decode cX6_ordersOf 9 = .ok (.iload_n 1, 1) := by decide +kernel
theorem dX6_ordersOf_10 : decode cX6_ordersOf 10 = .ok (.iload_n 2, 1) := by decide +kernel
theorem dX6_ordersOf_11 : decode cX6_ordersOf 11 = .ok (.imul, 1) := by decide +kernel
theorem dX6_ordersOf_12 : decode cX6_ordersOf 12 = .ok (.istore_n 1, 1) := by decide +kernel
theorem dX6_ordersOf_13 : decode cX6_ordersOf 13 = .ok (.iinc 2 1, 3) := by decide +kernel
theorem dX6_ordersOf_16 : decode cX6_ordersOf 16 = .ok (.goto (-12), 3) := by decide +kernel
theorem dX6_ordersOf_19 : decode cX6_ordersOf 19 = .ok (.iload_n 1, 1) := by decide +kernel
theorem dX6_ordersOf_20 : decode cX6_ordersOf 20 = .ok (.ireturn, 1) := by decide +kernel
theorem dX6_n_0 : decode cX6_n 0 = .ok (.aload_n 0, 1) := by decide +kernel
theorem dX6_n_1 : decode cX6_n 1 = .ok (.getfield 7, 3) := by decide +kernel
theorem dX6_n_4 : decode cX6_n 4 = .ok (.iconst 0, 1) := by decide +kernel
theorem dX6_n_5 : decode cX6_n 5 = .ok (.iaload, 1) := by decide +kernel
theorem dX6_n_6 : decode cX6_n 6 = .ok (.ireturn, 1) := by decide +kernel
set_option maxRecDepth 20000 in
theorem ggX6_orders_X6_n : GoodIn wsX6_orders wsX6_n := goodIn_r _ [5, 6, 10, 11, 12, 13, 14, 15, 16, 17, 18, 19, 20, 21, 22, 23, 24, 25, 26, 27, 28, 29, 30] (by decide +kernel) (by decide +kernel)
set_option maxRecDepth 20000 in
theorem gX6_orders_X6_n : GoodIn wsX6_orders (wsV RX6 54 RX6 yX6_n wsX6_n) := goodIn_app (goodIn_of _ (by decide +kernel)) ggX6_orders_X6_n
set_option maxRecDepth 20000 in
theorem ggX6_orders_X6_ordersOf : GoodIn wsX6_orders wsX6_ordersOf := goodIn_r _ [9] (by decide +kernel) (by decide +kernel)
set_option maxRecDepth 20000 in
theorem gX6_orders_X6_ordersOf : GoodIn wsX6_orders (va_wsS RX6 58 yX6_ordersOf wsX6_ordersOf) := goodIn_app (goodIn_of _ (by decide +kernel)) ggX6_orders_X6_ordersOf
theorem dX6_orders_0 : decode cX6_orders 0 = .ok (.aload_n 0, 1) := by decide +kernel
theorem dX6_orders_1 : decode cX6_orders 1 = .ok (.invokevirtual 54, 3) := by decide +kernel
theorem dX6_orders_4 : decode cX6_orders 4 = .ok (.invokestatic 58, 3) := by decide +kernel
theorem dX6_orders_7 : decode cX6_orders 7 = .ok (.ireturn, 1) := by decide +kernel
set_option maxRecDepth 20000 in
theorem ggX6_layWord_X6_ordersOf : GoodIn wsX6_layWord wsX6_ordersOf := goodIn_r _ [5] (by decide +kernel) (by decide +kernel)
set_option maxRecDepth 20000 in
theorem gX6_layWord_X6_ordersOf : GoodIn wsX6_layWord (va_wsS RX6 58 yX6_ordersOf wsX6_ordersOf) := goodIn_app (goodIn_of _ (by decide +kernel)) ggX6_layWord_X6_ordersOf
theorem dX6_layWord_0 : decode cX6_layWord 0 = .ok (.iload_n 1, 1) := by decide +kernel
theorem dX6_layWord_1 : decode cX6_layWord 1 = .ok (.istore_n 3, 1) := by decide +kernel
theorem dX6_layWord_2 : decode cX6_layWord 2 = .ok (.iconst 0, 1) := by decide +kernel
theorem dX6_layWord_3 : decode cX6_layWord 3 = .ok (.istore 4, 2) := by decide +kernel
theorem dX6_layWord_5 : decode cX6_layWord 5 = .ok (.iconst 0, 1) := by decide +kernel
theorem dX6_layWord_6 : decode cX6_layWord 6 = .ok (.istore 5, 2) := by decide +kernel
theorem dX6_layWord_8 : decode cX6_layWord 8 = .ok (.iload 5, 2) := by decide +kernel
theorem dX6_layWord_10 : decode cX6_layWord 10 = .ok (.iload_n 2, 1) := by decide +kernel
theorem dX6_layWord_11 : decode cX6_layWord 11 = .ok (.if_icmp .ge 95, 3) := by decide +kernel
theorem dX6_layWord_14 : decode cX6_layWord 14 = .ok (.iload_n 2, 1) := by decide +kernel
theorem dX6_layWord_15 : decode cX6_layWord 15 = .ok (.iconst 1, 1) := by decide +kernel
theorem dX6_layWord_16 : decode cX6_layWord 16 = .ok (.isub, 1) := by decide +kernel
theorem dX6_layWord_17 : decode cX6_layWord 17 = .ok (.iload 5, 2) := by decide +kernel
theorem dX6_layWord_19 : decode cX6_layWord 19 = .ok (.isub, 1) := by decide +kernel
theorem dX6_layWord_20 : decode cX6_layWord 20 = .ok (.invokestatic 58, 3) := by decide +kernel
theorem dX6_layWord_23 : decode cX6_layWord 23 = .ok (.istore 6, 2) := by decide +kernel
theorem dX6_layWord_25 : decode cX6_layWord 25 = .ok (.iload_n 3, 1) := by decide +kernel
theorem dX6_layWord_26 : decode cX6_layWord 26 = .ok (.iload 6, 2) := by decide +kernel
theorem dX6_layWord_28 : decode cX6_layWord 28 = .ok (.idiv, 1) := by decide +kernel
theorem dX6_layWord_29 : decode cX6_layWord 29 = .ok (.istore 7, 2) := by decide +kernel
theorem dX6_layWord_31 : decode cX6_layWord 31 = .ok (.iload_n 3, 1) := by decide +kernel
theorem dX6_layWord_32 : decode cX6_layWord 32 = .ok (.iload 6, 2) := by decide +kernel
theorem dX6_layWord_34 : decode cX6_layWord 34 = .ok (.irem, 1) := by decide +kernel
theorem dX6_layWord_35 : decode cX6_layWord 35 = .ok (.istore_n 3, 1) := by decide +kernel
theorem dX6_layWord_36 : decode cX6_layWord 36 = .ok (.iconst 1, 1) := by decide +kernel
theorem dX6_layWord_37 : decode cX6_layWord 37 = .ok (.istore 8, 2) := by decide +kernel
theorem dX6_layWord_39 : decode cX6_layWord 39 = .ok (.iload 7, 2) := by decide +kernel
theorem dX6_layWord_41 : decode cX6_layWord 41 = .ok (.ifCond .gt 14, 3) := by decide +kernel
theorem dX6_layWord_44 : decode cX6_layWord 44 = .ok (.iload 4, 2) := by decide +kernel
theorem dX6_layWord_46 : decode cX6_layWord 46 = .ok (.iload 8, 2) := by decide +kernel
theorem dX6_layWord_48 : decode cX6_layWord 48 = .ok (.ishr, 1) := by decide +kernel
theorem dX6_layWord_49 : decode cX6_layWord 49 = .ok (.iconst 1, 1) := by decide +kernel
theorem dX6_layWord_50 : decode cX6_layWord 50 = .ok (.iand, 1) := by decide +kernel
theorem dX6_layWord_51 : decode cX6_layWord 51 = .ok (.iconst 1, 1) := by decide +kernel
theorem dX6_layWord_52 : decode cX6_layWord 52 = .ok (.if_icmp .ne 30, 3) := by decide +kernel
theorem dX6_layWord_55 : decode cX6_layWord 55 = .ok (.iload 7, 2) := by decide +kernel
theorem dX6_layWord_57 : decode cX6_layWord 57 = .ok (.iload 4, 2) := by decide +kernel
theorem dX6_layWord_59 : decode cX6_layWord 59 = .ok (.iload 8, 2) := by decide +kernel
theorem dX6_layWord_61 : decode cX6_layWord 61 = .ok (.ishr, 1) := by decide +kernel
theorem dX6_layWord_62 : decode cX6_layWord 62 = .ok (.iconst 1, 1) := by decide +kernel
theorem dX6_layWord_63 : decode cX6_layWord 63 = .ok (.iand, 1) := by decide +kernel
theorem dX6_layWord_64 : decode cX6_layWord 64 = .ok (.iconst 1, 1) := by decide +kernel
theorem dX6_layWord_65 : decode cX6_layWord 65 = .ok (.if_icmp .ne 7, 3) := by decide +kernel
theorem dX6_layWord_68 : decode cX6_layWord 68 = .ok (.iconst 0, 1) := by decide +kernel
theorem dX6_layWord_69 : decode cX6_layWord 69 = .ok (.goto 4, 3) := by decide +kernel
theorem dX6_layWord_72 : decode cX6_layWord 72 = .ok (.iconst 1, 1) := by decide +kernel
theorem dX6_layWord_73 : decode cX6_layWord 73 = .ok (.isub, 1) := by decide +kernel
theorem dX6_layWord_74 : decode cX6_layWord 74 = .ok (.istore 7, 2) := by decide +kernel
theorem dX6_layWord_76 : decode cX6_layWord 76 = .ok (.iinc 8 1, 3) := by decide +kernel
theorem dX6_layWord_79 : decode cX6_layWord 79 = .ok (.goto (-40), 3) := by decide +kernel
theorem dX6_layWord_82 : decode cX6_layWord 82 = .ok (.iload 4, 2) := by decide +kernel
theorem dX6_layWord_84 : decode cX6_layWord 84 = .ok (.iconst 1, 1) := by decide +kernel
theorem dX6_layWord_85 : decode cX6_layWord 85 = .ok (.iload 8, 2) := by decide +kernel
theorem dX6_layWord_87 : decode cX6_layWord 87 = .ok (.ishl, 1) := by decide +kernel
theorem dX6_layWord_88 : decode cX6_layWord 88 = .ok (.ior, 1) := by decide +kernel
theorem dX6_layWord_89 : decode cX6_layWord 89 = .ok (.istore 4, 2) := by decide +kernel
theorem dX6_layWord_91 : decode cX6_layWord 91 = .ok (.aload_n 0, 1) := by decide +kernel
theorem dX6_layWord_92 : decode cX6_layWord 92 = .ok (.getfield 16, 3) := by decide +kernel
theorem dX6_layWord_95 : decode cX6_layWord 95 = .ok (.iload 5, 2) := by decide +kernel
theorem dX6_layWord_97 : decode cX6_layWord 97 = .ok (.iload 8, 2) := by decide +kernel
theorem dX6_layWord_99 : decode cX6_layWord 99 = .ok (.iastore, 1) := by decide +kernel
theorem dX6_layWord_100 : decode cX6_layWord 100 = .ok (.iinc 5 1, 3) := by decide +kernel
theorem dX6_layWord_103 : decode cX6_layWord 103 = .ok (.goto (-95), 3) := by decide +kernel
theorem dX6_layWord_106 : decode cX6_layWord 106 = .ok (.return_, 1) := by decide +kernel
set_option maxRecDepth 20000 in
theorem ggX6_layOrders_X6_n : GoodIn wsX6_layOrders wsX6_n := goodIn_r _ [8, 9, 21, 22, 23, 24, 25, 26, 27, 28, 29, 30, 31, 32, 33, 34, 35, 36, 37, 38, 39, 40, 41] (by decide +kernel) (by decide +kernel)
set_option maxRecDepth 20000 in
theorem gX6_layOrders_X6_n : GoodIn wsX6_layOrders (wsV RX6 54 RX6 yX6_n wsX6_n) := goodIn_app (goodIn_of _ (by decide +kernel)) ggX6_layOrders_X6_n
set_option maxRecDepth 20000 in
theorem ggX6_layOrders_X6_orders : GoodIn wsX6_layOrders wsX6_orders := goodIn_r _ [13, 4, 5, 6, 7, 8, 9, 14, 15, 16, 21, 22, 23, 24, 25, 26, 27, 28, 29, 30, 31, 32, 33, 34, 35, 36, 37, 38, 39, 40, 41] (by decide +kernel) (by decide +kernel)
set_option maxRecDepth 20000 in
theorem gX6_layOrders_X6_orders : GoodIn wsX6_layOrders (wsV RX6 65 RX6 yX6_orders wsX6_orders) := goodIn_app (goodIn_of _ (by decide +kernel)) ggX6_layOrders_X6_orders
set_option maxRecDepth 20000 in
theorem ggX6_layOrders_X6_layWord : GoodIn wsX6_layOrders wsX6_layWord := goodIn_r _ [20, 3, 14, 15, 7, 16, 21, 22, 23, 24, 25, 26, 27, 28, 29, 30, 31, 32, 33, 34, 35, 36, 37, 38, 39, 40, 41] (by decide +kernel) (by decide +kernel)
set_option maxRecDepth 20000 in
theorem gX6_layOrders_X6_layWord : GoodIn wsX6_layOrders (wsV RX6 68 RX6 yX6_layWord wsX6_layWord) := goodIn_app (goodIn_of _ (by decide +kernel)) ggX6_layOrders_X6_layWord
theorem dX6_layOrders_0 : decode cX6_layOrders 0 = .ok (.aload_n 0, 1) := by decide +kernel
theorem dX6_layOrders_1 : decode cX6_layOrders 1 = .ok (.getfield 62, 3) := by decide +kernel
theorem dX6_layOrders_4 : decode cX6_layOrders 4 = .ok (.aload_n 0, 1) := by decide +kernel
theorem dX6_layOrders_5 : decode cX6_layOrders 5 = .ok (.invokevirtual 54, 3) := by decide +kernel
theorem dX6_layOrders_8 : decode cX6_layOrders 8 = .ok (.if_icmp .ne 4, 3) := by decide +kernel
theorem dX6_layOrders_11 : decode cX6_layOrders 11 = .ok (.return_, 1) := by decide +kernel
theorem dX6_layOrders_12 : decode cX6_layOrders 12 = .ok (.aload_n 0, 1) := by decide +kernel
theorem dX6_layOrders_13 : decode cX6_layOrders 13 = .ok (.aload_n 0, 1) := by decide +kernel
theorem dX6_layOrders_14 : decode cX6_layOrders 14 = .ok (.invokevirtual 54, 3) := by decide +kernel
theorem dX6_layOrders_17 : decode cX6_layOrders 17 = .ok (.putfield 62, 3) := by decide +kernel
theorem dX6_layOrders_20 : decode cX6_layOrders 20 = .ok (.iconst 0, 1) := by decide +kernel
theorem dX6_layOrders_21 : decode cX6_layOrders 21 = .ok (.istore_n 1, 1) := by decide +kernel
theorem dX6_layOrders_22 : decode cX6_layOrders 22 = .ok (.iload_n 1, 1) := by decide +kernel
theorem dX6_layOrders_23 : decode cX6_layOrders 23 = .ok (.aload_n 0, 1) := by decide +kernel
theorem dX6_layOrders_24 : decode cX6_layOrders 24 = .ok (.invokevirtual 65, 3) := by decide +kernel
theorem dX6_layOrders_27 : decode cX6_layOrders 27 = .ok (.if_icmp .ge 50, 3) := by decide +kernel
theorem dX6_layOrders_30 : decode cX6_layOrders 30 = .ok (.aload_n 0, 1) := by decide +kernel
theorem dX6_layOrders_31 : decode cX6_layOrders 31 = .ok (.iload_n 1, 1) := by decide +kernel
theorem dX6_layOrders_32 : decode cX6_layOrders 32 = .ok (.aload_n 0, 1) := by decide +kernel
theorem dX6_layOrders_33 : decode cX6_layOrders 33 = .ok (.getfield 62, 3) := by decide +kernel
theorem dX6_layOrders_36 : decode cX6_layOrders 36 = .ok (.invokevirtual 68, 3) := by decide +kernel
theorem dX6_layOrders_39 : decode cX6_layOrders 39 = .ok (.iconst 0, 1) := by decide +kernel
theorem dX6_layOrders_40 : decode cX6_layOrders 40 = .ok (.istore_n 2, 1) := by decide +kernel
theorem dX6_layOrders_41 : decode cX6_layOrders 41 = .ok (.iload_n 2, 1) := by decide +kernel
theorem dX6_layOrders_42 : decode cX6_layOrders 42 = .ok (.aload_n 0, 1) := by decide +kernel
theorem dX6_layOrders_43 : decode cX6_layOrders 43 = .ok (.getfield 62, 3) := by decide +kernel
theorem dX6_layOrders_46 : decode cX6_layOrders 46 = .ok (.if_icmp .ge 25, 3) := by decide +kernel
theorem dX6_layOrders_49 : decode cX6_layOrders 49 = .ok (.aload_n 0, 1) := by decide +kernel
theorem dX6_layOrders_50 : decode cX6_layOrders 50 = .ok (.getfield 19, 3) := by decide +kernel
theorem dX6_layOrders_53 : decode cX6_layOrders 53 = .ok (.iconst 5, 1) := by decide +kernel
theorem dX6_layOrders_54 : decode cX6_layOrders 54 = .ok (.iload_n 1, 1) := by decide +kernel
theorem dX6_layOrders_55 : decode cX6_layOrders 55 = .ok (.imul, 1) := by decide +kernel
theorem dX6_layOrders_56 : decode cX6_layOrders 56 = .ok (.iload_n 2, 1) := by decide +kernel
theorem dX6_layOrders_57 : decode cX6_layOrders 57 = .ok (.iadd, 1) := by decide +kernel
theorem dX6_layOrders_58 : decode cX6_layOrders 58 = .ok (.aload_n 0, 1) := by decide +kernel
theorem dX6_layOrders_59 : decode cX6_layOrders 59 = .ok (.getfield 16, 3) := by decide +kernel
theorem dX6_layOrders_62 : decode cX6_layOrders 62 = .ok (.iload_n 2, 1) := by decide +kernel
theorem dX6_layOrders_63 : decode cX6_layOrders 63 = .ok (.iaload, 1) := by decide +kernel
theorem dX6_layOrders_64 : decode cX6_layOrders 64 = .ok (.iastore, 1) := by decide +kernel
theorem dX6_layOrders_65 : decode cX6_layOrders 65 = .ok (.iinc 2 1, 3) := by decide +kernel
theorem dX6_layOrders_68 : decode cX6_layOrders 68 = .ok (.goto (-27), 3) := by decide +kernel
theorem dX6_layOrders_71 : decode cX6_layOrders 71 = .ok (.iinc 1 1, 3) := by decide +kernel
theorem dX6_layOrders_74 : decode cX6_layOrders 74 = .ok (.goto (-52), 3) := by decide +kernel
theorem dX6_layOrders_77 : decode cX6_layOrders 77 = .ok (.return_, 1) := by decide +kernel
set_option maxRecDepth 20000 in
theorem ggX6_at_X6_layOrders : GoodIn wsX6_at wsX6_layOrders := goodIn_r _ [6, 7, 1, 8, 9, 10, 11, 5, 12, 13, 14, 15, 16, 17, 18, 19, 20, 21, 22, 23, 24, 25, 26, 27, 28, 29, 30, 31, 32, 33, 34, 35, 36, 37, 38, 39, 40, 41, 42, 43, 44, 45] (by decide +kernel) (by decide +kernel)
set_option maxRecDepth 20000 in
theorem gX6_at_X6_layOrders : GoodIn wsX6_at (wsV RX6 72 RX6 yX6_layOrders wsX6_layOrders) := goodIn_app (goodIn_of _ (by decide +kernel)) ggX6_at_X6_layOrders
theorem dX6_at_0 : decode cX6_at 0 = .ok (.aload_n 0, 1) := by decide +kernel
theorem dX6_at_1 : decode cX6_at 1 = .ok (.invokevirtual 72, 3) := by decide +kernel
theorem dX6_at_4 : decode cX6_at 4 = .ok (.aload_n 0, 1) := by decide +kernel
theorem dX6_at_5 : decode cX6_at 5 = .ok (.getfield 19, 3) := by decide +kernel
theorem dX6_at_8 : decode cX6_at 8 = .ok (.iconst 5, 1) := by decide +kernel
theorem dX6_at_9 : decode cX6_at 9 = .ok (.iload_n 1, 1) := by decide +kernel
theorem dX6_at_10 : decode cX6_at 10 = .ok (.imul, 1) := by decide +kernel
theorem dX6_at_11 : decode cX6_at 11 = .ok (.iload_n 2, 1) := by decide +kernel
theorem dX6_at_12 : decode cX6_at 12 = .ok (.iadd, 1) := by decide +kernel
theorem dX6_at_13 : decode cX6_at 13 = .ok (.iaload, 1) := by decide +kernel
theorem dX6_at_14 : decode cX6_at 14 = .ok (.ireturn, 1) := by decide +kernel
set_option maxRecDepth 20000 in
theorem ggX6_numberOfWord_X6_n : GoodIn wsX6_numberOfWord wsX6_n := goodIn_r _ [6, 7, 8, 9, 10, 11, 12, 13, 14, 15, 16, 17, 18, 19, 20, 21, 22, 23, 24, 25, 26, 27, 28] (by decide +kernel) (by decide +kernel)
set_option maxRecDepth 20000 in
theorem gX6_numberOfWord_X6_n : GoodIn wsX6_numberOfWord (wsV RX6 54 RX6 yX6_n wsX6_n) := goodIn_app (goodIn_of _ (by decide +kernel)) ggX6_numberOfWord_X6_n
theorem dX6_numberOfWord_0 : decode cX6_numberOfWord 0 = .ok (.iconst 0, 1) := by decide +kernel
theorem dX6_numberOfWord_1 : decode cX6_numberOfWord 1 = .ok (.istore_n 1, 1) := by decide +kernel
theorem dX6_numberOfWord_2 : decode cX6_numberOfWord 2 = .ok (.iconst 0, 1) := by decide +kernel
theorem dX6_numberOfWord_3 : decode cX6_numberOfWord 3 = .ok (.istore_n 2, 1) := by decide +kernel
theorem dX6_numberOfWord_4 : decode cX6_numberOfWord 4 = .ok (.iload_n 2, 1) := by decide +kernel
theorem dX6_numberOfWord_5 : decode cX6_numberOfWord 5 = .ok (.aload_n 0, 1) := by decide +kernel
theorem dX6_numberOfWord_6 : decode cX6_numberOfWord 6 = .ok (.invokevirtual 54, 3) := by decide +kernel
theorem dX6_numberOfWord_9 : decode cX6_numberOfWord 9 = .ok (.if_icmp .ge 66, 3) := by decide +kernel
theorem dX6_numberOfWord_12 : decode cX6_numberOfWord 12 = .ok (.iconst 0, 1) := by decide +kernel
theorem dX6_numberOfWord_13 : decode cX6_numberOfWord 13 = .ok (.istore_n 3, 1) := by decide +kernel
theorem dX6_numberOfWord_14 : decode cX6_numberOfWord 14 = .ok (.iload_n 2, 1) := by decide +kernel
theorem dX6_numberOfWord_15 : decode cX6_numberOfWord 15 = .ok (.iconst 1, 1) := by decide +kernel
theorem dX6_numberOfWord_16 : decode cX6_numberOfWord 16 = .ok (.iadd, 1) := by decide +kernel
theorem dX6_numberOfWord_17 : decode cX6_numberOfWord 17 = .ok (.istore 4, 2) := by decide +kernel
theorem dX6_numberOfWord_19 : decode cX6_numberOfWord 19 = .ok (.iload 4, 2) := by decide +kernel
theorem dX6_numberOfWord_21 : decode cX6_numberOfWord 21 = .ok (.aload_n 0, 1) := by decide +kernel
theorem dX6_numberOfWord_22 : decode cX6_numberOfWord 22 = .ok (.invokevirtual 54, 3) := by decide +kernel
theorem dX6_numberOfWord_25 : decode cX6_numberOfWord 25 = .ok (.if_icmp .ge 33, 3) := by decide +kernel
theorem dX6_numberOfWord_28 : decode cX6_numberOfWord 28 = .ok (.iload_n 3, 1) := by decide +kernel
theorem dX6_numberOfWord_29 : decode cX6_numberOfWord 29 = .ok (.aload_n 0, 1) := by decide +kernel
theorem dX6_numberOfWord_30 : decode cX6_numberOfWord 30 = .ok (.getfield 16, 3) := by decide +kernel
theorem dX6_numberOfWord_33 : decode cX6_numberOfWord 33 = .ok (.iload 4, 2) := by decide +kernel
theorem dX6_numberOfWord_35 : decode cX6_numberOfWord 35 = .ok (.iaload, 1) := by decide +kernel
theorem dX6_numberOfWord_36 : decode cX6_numberOfWord 36 = .ok (.aload_n 0, 1) := by decide +kernel
theorem dX6_numberOfWord_37 : decode cX6_numberOfWord 37 = .ok (.getfield 16, 3) := by decide +kernel
theorem dX6_numberOfWord_40 : decode cX6_numberOfWord 40 = .ok (.iload_n 2, 1) := by decide +kernel
theorem dX6_numberOfWord_41 : decode cX6_numberOfWord 41 = .ok (.iaload, 1) := by decide +kernel
theorem dX6_numberOfWord_42 : decode cX6_numberOfWord 42 = .ok (.if_icmp .ge 7, 3) := by decide +kernel
theorem dX6_numberOfWord_45 : decode cX6_numberOfWord 45 = .ok (.iconst 1, 1) := by decide +kernel
theorem dX6_numberOfWord_46 : decode cX6_numberOfWord 46 = .ok (.goto 4, 3) := by decide +kernel
theorem dX6_numberOfWord_49 : decode cX6_numberOfWord 49 = .ok (.iconst 0, 1) := by decide +kernel
theorem dX6_numberOfWord_50 : decode cX6_numberOfWord 50 = .ok (.iadd, 1) := by decide +kernel
theorem dX6_numberOfWord_51 : decode cX6_numberOfWord 51 = .ok (.istore_n 3, 1) := by decide +kernel
theorem dX6_numberOfWord_52 : decode cX6_numberOfWord 52 = .ok (.iinc 4 1, 3) := by decide +kernel
theorem dX6_numberOfWord_55 : decode cX6_numberOfWord 55 = .ok (.goto (-36), 3) := by decide +kernel
theorem dX6_numberOfWord_58 : decode cX6_numberOfWord 58 = .ok (.iload_n 1, 1) := by decide +kernel
theorem dX6_numberOfWord_59 : decode cX6_numberOfWord 59 = .ok (.aload_n 0, 1) := by decide +kernel
theorem dX6_numberOfWord_60 : decode cX6_numberOfWord 60 = .ok (.invokevirtual 54, 3) := by decide +kernel
theorem dX6_numberOfWord_63 : decode cX6_numberOfWord 63 = .ok (.iload_n 2, 1) := by decide +kernel
theorem dX6_numberOfWord_64 : decode cX6_numberOfWord 64 = .ok (.isub, 1) := by decide +kernel
theorem dX6_numberOfWord_65 : decode cX6_numberOfWord 65 = .ok (.imul, 1) := by decide +kernel
theorem dX6_numberOfWord_66 : decode cX6_numberOfWord 66 = .ok (.iload_n 3, 1) := by decide +kernel
theorem dX6_numberOfWord_67 : decode cX6_numberOfWord 67 = .ok (.iadd, 1) := by decide +kernel
theorem dX6_numberOfWord_68 : decode cX6_numberOfWord 68 = .ok (.istore_n 1, 1) := by decide +kernel
theorem dX6_numberOfWord_69 : decode cX6_numberOfWord 69 = .ok (.iinc 2 1, 3) := by decide +kernel
theorem dX6_numberOfWord_72 : decode cX6_numberOfWord 72 = .ok (.goto (-68), 3) := by decide +kernel
theorem dX6_numberOfWord_75 : decode cX6_numberOfWord 75 = .ok (.iload_n 1, 1) := by decide +kernel
theorem dX6_numberOfWord_76 : decode cX6_numberOfWord 76 = .ok (.ireturn, 1) := by decide +kernel
set_option maxRecDepth 20000 in
theorem ggX6_isOrder_X6_orders : GoodIn wsX6_isOrder wsX6_orders := goodIn_r _ [5, 6, 7, 8, 4, 9, 10, 11, 12, 13, 17, 18, 19, 20, 21, 22, 23, 24, 25, 26, 27, 28, 29, 30, 31, 32, 33, 34, 35, 36, 37] (by decide +kernel) (by decide +kernel)
set_option maxRecDepth 20000 in
theorem gX6_isOrder_X6_orders : GoodIn wsX6_isOrder (wsV RX6 65 RX6 yX6_orders wsX6_orders) := goodIn_app (goodIn_of _ (by decide +kernel)) ggX6_isOrder_X6_orders
set_option maxRecDepth 20000 in
theorem ggX6_isOrder_X6_in : GoodIn wsX6_isOrder wsX6_in := goodIn_r _ [16] (by decide +kernel) (by decide +kernel)
set_option maxRecDepth 20000 in
theorem gX6_isOrder_X6_in : GoodIn wsX6_isOrder (va_wsS RX6 75 yX6_in wsX6_in) := goodIn_app (goodIn_of _ (by decide +kernel)) ggX6_isOrder_X6_in
theorem dX6_isOrder_0 : decode cX6_isOrder 0 = .ok (.iload_n 1, 1) := by decide +kernel
theorem dX6_isOrder_1 : decode cX6_isOrder 1 = .ok (.i2l, 1) := by decide +kernel
theorem dX6_isOrder_2 : decode cX6_isOrder 2 = .ok (.lconst 0, 1) := by decide +kernel
theorem dX6_isOrder_3 : decode cX6_isOrder 3 = .ok (.aload_n 0, 1) := by decide +kernel
theorem dX6_isOrder_4 : decode cX6_isOrder 4 = .ok (.invokevirtual 65, 3) := by decide +kernel
theorem dX6_isOrder_7 : decode cX6_isOrder 7 = .ok (.iconst 1, 1) := by decide +kernel
theorem dX6_isOrder_8 : decode cX6_isOrder 8 = .ok (.isub, 1) := by decide +kernel
theorem dX6_isOrder_9 : decode cX6_isOrder 9 = .ok (.i2l, 1) := by decide +kernel
theorem dX6_isOrder_10 : decode cX6_isOrder 10 = .ok (.invokestatic 75, 3) := by decide +kernel
theorem dX6_isOrder_13 : decode cX6_isOrder 13 = .ok (.ireturn, 1) := by decide +kernel
set_option maxRecDepth 20000 in
theorem ggX6_descents_X6_n : GoodIn wsX6_descents wsX6_n := goodIn_r _ [5, 6, 29, 30, 31, 32, 33, 34, 35, 36, 37, 38, 39, 40, 41, 42, 43, 44, 45, 46, 47, 48, 49] (by decide +kernel) (by decide +kernel)
set_option maxRecDepth 20000 in
theorem gX6_descents_X6_n : GoodIn wsX6_descents (wsV RX6 54 RX6 yX6_n wsX6_n) := goodIn_app (goodIn_of _ (by decide +kernel)) ggX6_descents_X6_n
set_option maxRecDepth 20000 in
theorem ggX6_descents_X6_at : GoodIn wsX6_descents wsX6_at := goodIn_r _ [10, 11, 12, 13, 14, 4, 15, 16, 17, 1, 2, 3, 5, 6, 18, 19, 20, 21, 22, 23, 24, 25, 26, 27, 28, 29, 30, 31, 32, 33, 34, 35, 36, 37, 38, 39, 40, 41, 42, 43, 44, 45, 46, 47, 48, 49] (by decide +kernel) (by decide +kernel)
set_option maxRecDepth 20000 in
theorem gX6_descents_X6_at : GoodIn wsX6_descents (wsV RX6 79 RX6 yX6_at wsX6_at) := goodIn_app (goodIn_of _ (by decide +kernel)) ggX6_descents_X6_at
theorem dX6_descents_0 : decode cX6_descents 0 = .ok (.iconst 0, 1) := by decide +kernel
theorem dX6_descents_1 : decode cX6_descents 1 = .ok (.istore_n 2, 1) := by decide +kernel
theorem dX6_descents_2 : decode cX6_descents 2 = .ok (.iconst 0, 1) := by decide +kernel
theorem dX6_descents_3 : decode cX6_descents 3 = .ok (.istore_n 3, 1) := by decide +kernel
theorem dX6_descents_4 : decode cX6_descents 4 = .ok (.iload_n 3, 1) := by decide +kernel
theorem dX6_descents_5 : decode cX6_descents 5 = .ok (.iconst 1, 1) := by decide +kernel
theorem dX6_descents_6 : decode cX6_descents 6 = .ok (.iadd, 1) := by decide +kernel
theorem dX6_descents_7 : decode cX6_descents 7 = .ok (.aload_n 0, 1) := by decide +kernel
theorem dX6_descents_8 : decode cX6_descents 8 = .ok (.invokevirtual 54, 3) := by decide +kernel
theorem dX6_descents_11 : decode cX6_descents 11 = .ok (.if_icmp .ge 36, 3) := by decide +kernel
theorem dX6_descents_14 : decode cX6_descents 14 = .ok (.iload_n 2, 1) := by decide +kernel
theorem dX6_descents_15 : decode cX6_descents 15 = .ok (.aload_n 0, 1) := by decide +kernel
theorem dX6_descents_16 : decode cX6_descents 16 = .ok (.iload_n 1, 1) := by decide +kernel
theorem dX6_descents_17 : decode cX6_descents 17 = .ok (.iload_n 3, 1) := by decide +kernel
theorem dX6_descents_18 : decode cX6_descents 18 = .ok (.invokevirtual 79, 3) := by decide +kernel
theorem dX6_descents_21 : decode cX6_descents 21 = .ok (.aload_n 0, 1) := by decide +kernel
theorem dX6_descents_22 : decode cX6_descents 22 = .ok (.iload_n 1, 1) := by decide +kernel
theorem dX6_descents_23 : decode cX6_descents 23 = .ok (.iload_n 3, 1) := by decide +kernel
theorem dX6_descents_24 : decode cX6_descents 24 = .ok (.iconst 1, 1) := by decide +kernel
theorem dX6_descents_25 : decode cX6_descents 25 = .ok (.iadd, 1) := by decide +kernel
theorem dX6_descents_26 : decode cX6_descents 26 = .ok (.invokevirtual 79, 3) := by decide +kernel
theorem dX6_descents_29 : decode cX6_descents 29 = .ok (.if_icmp .le 9, 3) := by decide +kernel
theorem dX6_descents_32 : decode cX6_descents 32 = .ok (.iconst 1, 1) := by decide +kernel
theorem dX6_descents_33 : decode cX6_descents 33 = .ok (.iload_n 3, 1) := by decide +kernel
theorem dX6_descents_34 : decode cX6_descents 34 = .ok (.ishl, 1) := by decide +kernel
theorem dX6_descents_35 : decode cX6_descents 35 = .ok (.goto 4, 3) := by decide +kernel
theorem dX6_descents_38 : decode cX6_descents 38 = .ok (.iconst 0, 1) := by decide +kernel
theorem dX6_descents_39 : decode cX6_descents 39 = .ok (.ior, 1) := by decide +kernel
theorem dX6_descents_40 : decode cX6_descents 40 = .ok (.istore_n 2, 1) := by decide +kernel
theorem dX6_descents_41 : decode cX6_descents 41 = .ok (.iinc 3 1, 3) := by decide +kernel
theorem dX6_descents_44 : decode cX6_descents 44 = .ok (.goto (-40), 3) := by decide +kernel
theorem dX6_descents_47 : decode cX6_descents 47 = .ok (.iload_n 2, 1) := by decide +kernel
theorem dX6_descents_48 : decode cX6_descents 48 = .ok (.ireturn, 1) := by decide +kernel
set_option maxRecDepth 20000 in
theorem ggX6_peaks_X6_n : GoodIn wsX6_peaks wsX6_n := goodIn_r _ [5, 6, 29, 30, 31, 32, 33, 34, 35, 36, 37, 38, 39, 40, 41, 42, 43, 44, 45, 46, 47, 48, 49] (by decide +kernel) (by decide +kernel)
set_option maxRecDepth 20000 in
theorem gX6_peaks_X6_n : GoodIn wsX6_peaks (wsV RX6 54 RX6 yX6_n wsX6_n) := goodIn_app (goodIn_of _ (by decide +kernel)) ggX6_peaks_X6_n
set_option maxRecDepth 20000 in
theorem ggX6_peaks_X6_at : GoodIn wsX6_peaks wsX6_at := goodIn_r _ [10, 11, 12, 13, 14, 4, 15, 16, 17, 1, 2, 3, 5, 6, 18, 19, 20, 21, 22, 23, 24, 25, 26, 27, 28, 29, 30, 31, 32, 33, 34, 35, 36, 37, 38, 39, 40, 41, 42, 43, 44, 45, 46, 47, 48, 49] (by decide +kernel) (by decide +kernel)
set_option maxRecDepth 20000 in
theorem gX6_peaks_X6_at : GoodIn wsX6_peaks (wsV RX6 79 RX6 yX6_at wsX6_at) := goodIn_app (goodIn_of _ (by decide +kernel)) ggX6_peaks_X6_at
theorem dX6_peaks_0 : decode cX6_peaks 0 = .ok (.iconst 0, 1) := by decide +kernel
theorem dX6_peaks_1 : decode cX6_peaks 1 = .ok (.istore_n 2, 1) := by decide +kernel
theorem dX6_peaks_2 : decode cX6_peaks 2 = .ok (.iconst 1, 1) := by decide +kernel
theorem dX6_peaks_3 : decode cX6_peaks 3 = .ok (.istore_n 3, 1) := by decide +kernel
theorem dX6_peaks_4 : decode cX6_peaks 4 = .ok (.iload_n 3, 1) := by decide +kernel
theorem dX6_peaks_5 : decode cX6_peaks 5 = .ok (.iconst 1, 1) := by decide +kernel
theorem dX6_peaks_6 : decode cX6_peaks 6 = .ok (.iadd, 1) := by decide +kernel
theorem dX6_peaks_7 : decode cX6_peaks 7 = .ok (.aload_n 0, 1) := by decide +kernel
theorem dX6_peaks_8 : decode cX6_peaks 8 = .ok (.invokevirtual 54, 3) := by decide +kernel
theorem dX6_peaks_11 : decode cX6_peaks 11 = .ok (.if_icmp .ge 53, 3) := by decide +kernel
theorem dX6_peaks_14 : decode cX6_peaks 14 = .ok (.iload_n 2, 1) := by decide +kernel
theorem dX6_peaks_15 : decode cX6_peaks 15 = .ok (.aload_n 0, 1) := by decide +kernel
theorem dX6_peaks_16 : decode cX6_peaks 16 = .ok (.iload_n 1, 1) := by decide +kernel
theorem dX6_peaks_17 : decode cX6_peaks 17 = .ok (.iload_n 3, 1) := by decide +kernel
theorem dX6_peaks_18 : decode cX6_peaks 18 = .ok (.invokevirtual 79, 3) := by decide +kernel
theorem dX6_peaks_21 : decode cX6_peaks 21 = .ok (.aload_n 0, 1) := by decide +kernel
theorem dX6_peaks_22 : decode cX6_peaks 22 = .ok (.iload_n 1, 1) := by decide +kernel
theorem dX6_peaks_23 : decode cX6_peaks 23 = .ok (.iload_n 3, 1) := by decide +kernel
theorem dX6_peaks_24 : decode cX6_peaks 24 = .ok (.iconst 1, 1) := by decide +kernel
theorem dX6_peaks_25 : decode cX6_peaks 25 = .ok (.isub, 1) := by decide +kernel
theorem dX6_peaks_26 : decode cX6_peaks 26 = .ok (.invokevirtual 79, 3) := by decide +kernel
theorem dX6_peaks_29 : decode cX6_peaks 29 = .ok (.if_icmp .le 26, 3) := by decide +kernel
theorem dX6_peaks_32 : decode cX6_peaks 32 = .ok (.aload_n 0, 1) := by decide +kernel
theorem dX6_peaks_33 : decode cX6_peaks 33 = .ok (.iload_n 1, 1) := by decide +kernel
theorem dX6_peaks_34 : decode cX6_peaks 34 = .ok (.iload_n 3, 1) := by decide +kernel
theorem dX6_peaks_35 : decode cX6_peaks 35 = .ok (.invokevirtual 79, 3) := by decide +kernel
theorem dX6_peaks_38 : decode cX6_peaks 38 = .ok (.aload_n 0, 1) := by decide +kernel
theorem dX6_peaks_39 : decode cX6_peaks 39 = .ok (.iload_n 1, 1) := by decide +kernel
theorem dX6_peaks_40 : decode cX6_peaks 40 = .ok (.iload_n 3, 1) := by decide +kernel
theorem dX6_peaks_41 : decode cX6_peaks 41 = .ok (.iconst 1, 1) := by decide +kernel
theorem dX6_peaks_42 : decode cX6_peaks 42 = .ok (.iadd, 1) := by decide +kernel
theorem dX6_peaks_43 : decode cX6_peaks 43 = .ok (.invokevirtual 79, 3) := by decide +kernel
theorem dX6_peaks_46 : decode cX6_peaks 46 = .ok (.if_icmp .le 9, 3) := by decide +kernel
theorem dX6_peaks_49 : decode cX6_peaks 49 = .ok (.iconst 1, 1) := by decide +kernel
theorem dX6_peaks_50 : decode cX6_peaks 50 = .ok (.iload_n 3, 1) := by decide +kernel
theorem dX6_peaks_51 : decode cX6_peaks 51 = .ok (.ishl, 1) := by decide +kernel
theorem dX6_peaks_52 : decode cX6_peaks 52 = .ok (.goto 4, 3) := by decide +kernel
theorem dX6_peaks_55 : decode cX6_peaks 55 = .ok (.iconst 0, 1) := by decide +kernel
theorem dX6_peaks_56 : decode cX6_peaks 56 = .ok (.ior, 1) := by decide +kernel
theorem dX6_peaks_57 : decode cX6_peaks 57 = .ok (.istore_n 2, 1) := by decide +kernel
theorem dX6_peaks_58 : decode cX6_peaks 58 = .ok (.iinc 3 1, 3) := by decide +kernel
theorem dX6_peaks_61 : decode cX6_peaks 61 = .ok (.goto (-57), 3) := by decide +kernel
theorem dX6_peaks_64 : decode cX6_peaks 64 = .ok (.iload_n 2, 1) := by decide +kernel
theorem dX6_peaks_65 : decode cX6_peaks 65 = .ok (.ireturn, 1) := by decide +kernel
set_option maxRecDepth 20000 in
theorem ggX6_inversions_X6_n : GoodIn wsX6_inversions wsX6_n := goodIn_r _ [5, 6, 29, 30, 31, 32, 33, 34, 35, 36, 37, 38, 39, 40, 41, 42, 43, 44, 45, 46, 47, 48, 49] (by decide +kernel) (by decide +kernel)
set_option maxRecDepth 20000 in
theorem gX6_inversions_X6_n : GoodIn wsX6_inversions (wsV RX6 54 RX6 yX6_n wsX6_n) := goodIn_app (goodIn_of _ (by decide +kernel)) ggX6_inversions_X6_n
set_option maxRecDepth 20000 in
theorem ggX6_inversions_X6_at : GoodIn wsX6_inversions wsX6_at := goodIn_r _ [10, 11, 12, 13, 14, 4, 15, 16, 17, 1, 2, 3, 5, 6, 18, 19, 20, 21, 22, 23, 24, 25, 26, 27, 28, 29, 30, 31, 32, 33, 34, 35, 36, 37, 38, 39, 40, 41, 42, 43, 44, 45, 46, 47, 48, 49] (by decide +kernel) (by decide +kernel)
set_option maxRecDepth 20000 in
theorem gX6_inversions_X6_at : GoodIn wsX6_inversions (wsV RX6 79 RX6 yX6_at wsX6_at) := goodIn_app (goodIn_of _ (by decide +kernel)) ggX6_inversions_X6_at
theorem dX6_inversions_0 : decode cX6_inversions 0 = .ok (.iconst 0, 1) := by decide +kernel
theorem dX6_inversions_1 : decode cX6_inversions 1 = .ok (.istore_n 2, 1) := by decide +kernel
theorem dX6_inversions_2 : decode cX6_inversions 2 = .ok (.iconst 0, 1) := by decide +kernel
theorem dX6_inversions_3 : decode cX6_inversions 3 = .ok (.istore_n 3, 1) := by decide +kernel
theorem dX6_inversions_4 : decode cX6_inversions 4 = .ok (.iload_n 3, 1) := by decide +kernel
theorem dX6_inversions_5 : decode cX6_inversions 5 = .ok (.aload_n 0, 1) := by decide +kernel
theorem dX6_inversions_6 : decode cX6_inversions 6 = .ok (.invokevirtual 54, 3) := by decide +kernel
theorem dX6_inversions_9 : decode cX6_inversions 9 = .ok (.if_icmp .ge 48, 3) := by decide +kernel
theorem dX6_inversions_12 : decode cX6_inversions 12 = .ok (.iconst 0, 1) := by decide +kernel
theorem dX6_inversions_13 : decode cX6_inversions 13 = .ok (.istore 4, 2) := by decide +kernel
theorem dX6_inversions_15 : decode cX6_inversions 15 = .ok (.iload 4, 2) := by decide +kernel
theorem dX6_inversions_17 : decode cX6_inversions 17 = .ok (.iload_n 3, 1) := by decide +kernel
theorem dX6_inversions_18 : decode cX6_inversions 18 = .ok (.if_icmp .ge 33, 3) := by decide +kernel
theorem dX6_inversions_21 : decode cX6_inversions 21 = .ok (.iload_n 2, 1) := by decide +kernel
theorem dX6_inversions_22 : decode cX6_inversions 22 = .ok (.aload_n 0, 1) := by decide +kernel
theorem dX6_inversions_23 : decode cX6_inversions 23 = .ok (.iload_n 1, 1) := by decide +kernel
theorem dX6_inversions_24 : decode cX6_inversions 24 = .ok (.iload 4, 2) := by decide +kernel
theorem dX6_inversions_26 : decode cX6_inversions 26 = .ok (.invokevirtual 79, 3) := by decide +kernel
theorem dX6_inversions_29 : decode cX6_inversions 29 = .ok (.aload_n 0, 1) := by decide +kernel
theorem dX6_inversions_30 : decode cX6_inversions 30 = .ok (.iload_n 1, 1) := by decide +kernel
theorem dX6_inversions_31 : decode cX6_inversions 31 = .ok (.iload_n 3, 1) := by decide +kernel
theorem dX6_inversions_32 : decode cX6_inversions 32 = .ok (.invokevirtual 79, 3) := by decide +kernel
theorem dX6_inversions_35 : decode cX6_inversions 35 = .ok (.if_icmp .le 7, 3) := by decide +kernel
theorem dX6_inversions_38 : decode cX6_inversions 38 = .ok (.iconst 1, 1) := by decide +kernel
theorem dX6_inversions_39 : decode cX6_inversions 39 = .ok (.goto 4, 3) := by decide +kernel
theorem dX6_inversions_42 : decode cX6_inversions 42 = .ok (.iconst 0, 1) := by decide +kernel
theorem dX6_inversions_43 : decode cX6_inversions 43 = .ok (.iadd, 1) := by decide +kernel
theorem dX6_inversions_44 : decode cX6_inversions 44 = .ok (.istore_n 2, 1) := by decide +kernel
theorem dX6_inversions_45 : decode cX6_inversions 45 = .ok (.iinc 4 1, 3) := by decide +kernel
theorem dX6_inversions_48 : decode cX6_inversions 48 = .ok (.goto (-33), 3) := by decide +kernel
theorem dX6_inversions_51 : decode cX6_inversions 51 = .ok (.iinc 3 1, 3) := by decide +kernel
theorem dX6_inversions_54 : decode cX6_inversions 54 = .ok (.goto (-50), 3) := by decide +kernel
theorem dX6_inversions_57 : decode cX6_inversions 57 = .ok (.iload_n 2, 1) := by decide +kernel
theorem dX6_inversions_58 : decode cX6_inversions 58 = .ok (.ireturn, 1) := by decide +kernel
set_option maxRecDepth 20000 in
theorem ggX6_inverse_X6_n : GoodIn wsX6_inverse wsX6_n := goodIn_r _ [6, 7, 33, 34, 35, 36, 37, 38, 39, 40, 41, 42, 43, 44, 45, 46, 47, 48, 49, 50, 51, 52, 53] (by decide +kernel) (by decide +kernel)
set_option maxRecDepth 20000 in
theorem gX6_inverse_X6_n : GoodIn wsX6_inverse (wsV RX6 54 RX6 yX6_n wsX6_n) := goodIn_app (goodIn_of _ (by decide +kernel)) ggX6_inverse_X6_n
set_option maxRecDepth 20000 in
theorem ggX6_inverse_X6_at : GoodIn wsX6_inverse wsX6_at := goodIn_r _ [11, 12, 13, 14, 15, 5, 16, 17, 1, 2, 3, 4, 6, 7, 18, 19, 20, 21, 22, 23, 24, 25, 26, 27, 28, 33, 34, 35, 36, 37, 38, 39, 40, 41, 42, 43, 44, 45, 46, 47, 48, 49, 50, 51, 52, 53] (by decide +kernel) (by decide +kernel)
set_option maxRecDepth 20000 in
theorem gX6_inverse_X6_at : GoodIn wsX6_inverse (wsV RX6 79 RX6 yX6_at wsX6_at) := goodIn_app (goodIn_of _ (by decide +kernel)) ggX6_inverse_X6_at
set_option maxRecDepth 20000 in
theorem ggX6_inverse_X6_numberOfWord : GoodIn wsX6_inverse wsX6_numberOfWord := goodIn_r _ [32, 1, 2, 3, 4, 5, 6, 7, 33, 34, 35, 36, 37, 38, 39, 40, 41, 42, 43, 44, 45, 46, 47, 48, 49, 50, 51, 52, 53] (by decide +kernel) (by decide +kernel)
set_option maxRecDepth 20000 in
theorem gX6_inverse_X6_numberOfWord : GoodIn wsX6_inverse (wsV RX6 83 RX6 yX6_numberOfWord wsX6_numberOfWord) := goodIn_app (goodIn_of _ (by decide +kernel)) ggX6_inverse_X6_numberOfWord
theorem dX6_inverse_0 : decode cX6_inverse 0 = .ok (.iconst 0, 1) := by decide +kernel
theorem dX6_inverse_1 : decode cX6_inverse 1 = .ok (.istore_n 2, 1) := by decide +kernel
theorem dX6_inverse_2 : decode cX6_inverse 2 = .ok (.iload_n 2, 1) := by decide +kernel
theorem dX6_inverse_3 : decode cX6_inverse 3 = .ok (.aload_n 0, 1) := by decide +kernel
theorem dX6_inverse_4 : decode cX6_inverse 4 = .ok (.invokevirtual 54, 3) := by decide +kernel
theorem dX6_inverse_7 : decode cX6_inverse 7 = .ok (.if_icmp .ge 25, 3) := by decide +kernel
theorem dX6_inverse_10 : decode cX6_inverse 10 = .ok (.aload_n 0, 1) := by decide +kernel
theorem dX6_inverse_11 : decode cX6_inverse 11 = .ok (.getfield 16, 3) := by decide +kernel
theorem dX6_inverse_14 : decode cX6_inverse 14 = .ok (.aload_n 0, 1) := by decide +kernel
theorem dX6_inverse_15 : decode cX6_inverse 15 = .ok (.iload_n 1, 1) := by decide +kernel
theorem dX6_inverse_16 : decode cX6_inverse 16 = .ok (.iload_n 2, 1) := by decide +kernel
theorem dX6_inverse_17 : decode cX6_inverse 17 = .ok (.invokevirtual 79, 3) := by decide +kernel
theorem dX6_inverse_20 : decode cX6_inverse 20 = .ok (.iconst 1, 1) := by decide +kernel
theorem dX6_inverse_21 : decode cX6_inverse 21 = .ok (.isub, 1) := by decide +kernel
theorem dX6_inverse_22 : decode cX6_inverse 22 = .ok (.iload_n 2, 1) := by decide +kernel
theorem dX6_inverse_23 : decode cX6_inverse 23 = .ok (.iconst 1, 1) := by decide +kernel
theorem dX6_inverse_24 : decode cX6_inverse 24 = .ok (.iadd, 1) := by decide +kernel
theorem dX6_inverse_25 : decode cX6_inverse 25 = .ok (.iastore, 1) := by decide +kernel
theorem dX6_inverse_26 : decode cX6_inverse 26 = .ok (.iinc 2 1, 3) := by decide +kernel
theorem dX6_inverse_29 : decode cX6_inverse 29 = .ok (.goto (-27), 3) := by decide +kernel
theorem dX6_inverse_32 : decode cX6_inverse 32 = .ok (.aload_n 0, 1) := by decide +kernel
theorem dX6_inverse_33 : decode cX6_inverse 33 = .ok (.invokevirtual 83, 3) := by decide +kernel
theorem dX6_inverse_36 : decode cX6_inverse 36 = .ok (.ireturn, 1) := by decide +kernel
set_option maxRecDepth 20000 in
theorem ggX6_rings_X6_n : GoodIn wsX6_rings wsX6_n := goodIn_r _ [5, 6, 29, 30, 31, 32, 33, 34, 35, 36, 37, 38, 39, 40, 41, 42, 43, 44, 45, 46, 47, 48, 49] (by decide +kernel) (by decide +kernel)
set_option maxRecDepth 20000 in
theorem gX6_rings_X6_n : GoodIn wsX6_rings (wsV RX6 54 RX6 yX6_n wsX6_n) := goodIn_app (goodIn_of _ (by decide +kernel)) ggX6_rings_X6_n
set_option maxRecDepth 20000 in
theorem ggX6_rings_X6_at : GoodIn wsX6_rings wsX6_at := goodIn_r _ [10, 11, 12, 13, 14, 4, 15, 16, 17, 1, 2, 3, 5, 6, 18, 19, 20, 21, 22, 23, 24, 25, 26, 27, 28, 29, 30, 31, 32, 33, 34, 35, 36, 37, 38, 39, 40, 41, 42, 43, 44, 45, 46, 47, 48, 49] (by decide +kernel) (by decide +kernel)
set_option maxRecDepth 20000 in
theorem gX6_rings_X6_at : GoodIn wsX6_rings (wsV RX6 79 RX6 yX6_at wsX6_at) := goodIn_app (goodIn_of _ (by decide +kernel)) ggX6_rings_X6_at
theorem dX6_rings_0 : decode cX6_rings 0 = .ok (.iconst 0, 1) := by decide +kernel
theorem dX6_rings_1 : decode cX6_rings 1 = .ok (.istore_n 2, 1) := by decide +kernel
theorem dX6_rings_2 : decode cX6_rings 2 = .ok (.iconst 0, 1) := by decide +kernel
theorem dX6_rings_3 : decode cX6_rings 3 = .ok (.istore_n 3, 1) := by decide +kernel
theorem dX6_rings_4 : decode cX6_rings 4 = .ok (.iconst 0, 1) := by decide +kernel
theorem dX6_rings_5 : decode cX6_rings 5 = .ok (.istore 4, 2) := by decide +kernel
theorem dX6_rings_7 : decode cX6_rings 7 = .ok (.iload 4, 2) := by decide +kernel
theorem dX6_rings_9 : decode cX6_rings 9 = .ok (.aload_n 0, 1) := by decide +kernel
theorem dX6_rings_10 : decode cX6_rings 10 = .ok (.invokevirtual 54, 3) := by decide +kernel
theorem dX6_rings_13 : decode cX6_rings 13 = .ok (.if_icmp .ge 60, 3) := by decide +kernel
theorem dX6_rings_16 : decode cX6_rings 16 = .ok (.iload_n 3, 1) := by decide +kernel
theorem dX6_rings_17 : decode cX6_rings 17 = .ok (.iload_n 2, 1) := by decide +kernel
theorem dX6_rings_18 : decode cX6_rings 18 = .ok (.iload 4, 2) := by decide +kernel
theorem dX6_rings_20 : decode cX6_rings 20 = .ok (.ishr, 1) := by decide +kernel
theorem dX6_rings_21 : decode cX6_rings 21 = .ok (.iconst 1, 1) := by decide +kernel
theorem dX6_rings_22 : decode cX6_rings 22 = .ok (.iand, 1) := by decide +kernel
theorem dX6_rings_23 : decode cX6_rings 23 = .ok (.ifCond .ne 7, 3) := by decide +kernel
theorem dX6_rings_26 : decode cX6_rings 26 = .ok (.iconst 1, 1) := by decide +kernel
theorem dX6_rings_27 : decode cX6_rings 27 = .ok (.goto 4, 3) := by decide +kernel
theorem dX6_rings_30 : decode cX6_rings 30 = .ok (.iconst 0, 1) := by decide +kernel
theorem dX6_rings_31 : decode cX6_rings 31 = .ok (.iadd, 1) := by decide +kernel
theorem dX6_rings_32 : decode cX6_rings 32 = .ok (.istore_n 3, 1) := by decide +kernel
theorem dX6_rings_33 : decode cX6_rings 33 = .ok (.iload 4, 2) := by decide +kernel
theorem dX6_rings_35 : decode cX6_rings 35 = .ok (.istore 5, 2) := by decide +kernel
theorem dX6_rings_37 : decode cX6_rings 37 = .ok (.iload_n 2, 1) := by decide +kernel
theorem dX6_rings_38 : decode cX6_rings 38 = .ok (.iload 5, 2) := by decide +kernel
theorem dX6_rings_40 : decode cX6_rings 40 = .ok (.ishr, 1) := by decide +kernel
theorem dX6_rings_41 : decode cX6_rings 41 = .ok (.iconst 1, 1) := by decide +kernel
theorem dX6_rings_42 : decode cX6_rings 42 = .ok (.iand, 1) := by decide +kernel
theorem dX6_rings_43 : decode cX6_rings 43 = .ok (.ifCond .ne 24, 3) := by decide +kernel
theorem dX6_rings_46 : decode cX6_rings 46 = .ok (.iload_n 2, 1) := by decide +kernel
theorem dX6_rings_47 : decode cX6_rings 47 = .ok (.iconst 1, 1) := by decide +kernel
theorem dX6_rings_48 : decode cX6_rings 48 = .ok (.iload 5, 2) := by decide +kernel
theorem dX6_rings_50 : decode cX6_rings 50 = .ok (.ishl, 1) := by decide +kernel
theorem dX6_rings_51 : decode cX6_rings 51 = .ok (.ior, 1) := by decide +kernel
theorem dX6_rings_52 : decode cX6_rings 52 = .ok (.istore_n 2, 1) := by decide +kernel
theorem dX6_rings_53 : decode cX6_rings 53 = .ok (.aload_n 0, 1) := by decide +kernel
theorem dX6_rings_54 : decode cX6_rings 54 = .ok (.iload_n 1, 1) := by decide +kernel
theorem dX6_rings_55 : decode cX6_rings 55 = .ok (.iload 5, 2) := by decide +kernel
theorem dX6_rings_57 : decode cX6_rings 57 = .ok (.invokevirtual 79, 3) := by decide +kernel
theorem dX6_rings_60 : decode cX6_rings 60 = .ok (.iconst 1, 1) := by decide +kernel
theorem dX6_rings_61 : decode cX6_rings 61 = .ok (.isub, 1) := by decide +kernel
theorem dX6_rings_62 : decode cX6_rings 62 = .ok (.istore 5, 2) := by decide +kernel
theorem dX6_rings_64 : decode cX6_rings 64 = .ok (.goto (-27), 3) := by decide +kernel
theorem dX6_rings_67 : decode cX6_rings 67 = .ok (.iinc 4 1, 3) := by decide +kernel
theorem dX6_rings_70 : decode cX6_rings 70 = .ok (.goto (-63), 3) := by decide +kernel
theorem dX6_rings_73 : decode cX6_rings 73 = .ok (.iload_n 3, 1) := by decide +kernel
theorem dX6_rings_74 : decode cX6_rings 74 = .ok (.ireturn, 1) := by decide +kernel
set_option maxRecDepth 20000 in
theorem ggX6_descentSum_X6_n : GoodIn wsX6_descentSum wsX6_n := goodIn_r _ [5, 6, 33, 34, 35, 36, 37, 38, 39, 40, 41, 42, 43, 44, 45, 46, 47, 48, 49, 50, 51, 52, 53] (by decide +kernel) (by decide +kernel)
set_option maxRecDepth 20000 in
theorem gX6_descentSum_X6_n : GoodIn wsX6_descentSum (wsV RX6 54 RX6 yX6_n wsX6_n) := goodIn_app (goodIn_of _ (by decide +kernel)) ggX6_descentSum_X6_n
set_option maxRecDepth 20000 in
theorem ggX6_descentSum_X6_descents : GoodIn wsX6_descentSum wsX6_descents := goodIn_r _ [10, 1, 2, 3, 4, 5, 6, 11, 12, 13, 14, 15, 16, 17, 18, 19, 20, 21, 22, 23, 24, 25, 26, 27, 28, 29, 30, 31, 32, 33, 34, 35, 36, 37, 38, 39, 40, 41, 42, 43, 44, 45, 46, 47, 48, 49, 50, 51, 52, 53] (by decide +kernel) (by decide +kernel)
set_option maxRecDepth 20000 in
theorem gX6_descentSum_X6_descents : GoodIn wsX6_descentSum (wsV RX6 86 RX6 yX6_descents wsX6_descents) := goodIn_app (goodIn_of _ (by decide +kernel)) ggX6_descentSum_X6_descents
theorem dX6_descentSum_0 : decode cX6_descentSum 0 = .ok (.iconst 0, 1) := by decide +kernel
theorem dX6_descentSum_1 : decode cX6_descentSum 1 = .ok (.istore_n 2, 1) := by decide +kernel
theorem dX6_descentSum_2 : decode cX6_descentSum 2 = .ok (.iconst 0, 1) := by decide +kernel
theorem dX6_descentSum_3 : decode cX6_descentSum 3 = .ok (.istore_n 3, 1) := by decide +kernel
theorem dX6_descentSum_4 : decode cX6_descentSum 4 = .ok (.iload_n 3, 1) := by decide +kernel
theorem dX6_descentSum_5 : decode cX6_descentSum 5 = .ok (.aload_n 0, 1) := by decide +kernel
theorem dX6_descentSum_6 : decode cX6_descentSum 6 = .ok (.invokevirtual 54, 3) := by decide +kernel
theorem dX6_descentSum_9 : decode cX6_descentSum 9 = .ok (.if_icmp .ge 32, 3) := by decide +kernel
theorem dX6_descentSum_12 : decode cX6_descentSum 12 = .ok (.iload_n 2, 1) := by decide +kernel
theorem dX6_descentSum_13 : decode cX6_descentSum 13 = .ok (.aload_n 0, 1) := by decide +kernel
theorem dX6_descentSum_14 : decode cX6_descentSum 14 = .ok (.iload_n 1, 1) := by decide +kernel
theorem dX6_descentSum_15 : decode cX6_descentSum 15 = .ok (.invokevirtual 86, 3) := by decide +kernel
theorem dX6_descentSum_18 : decode cX6_descentSum 18 = .ok (.iload_n 3, 1) := by decide +kernel
theorem dX6_descentSum_19 : decode cX6_descentSum 19 = .ok (.ishr, 1) := by decide +kernel
theorem dX6_descentSum_20 : decode cX6_descentSum 20 = .ok (.iconst 1, 1) := by decide +kernel
theorem dX6_descentSum_21 : decode cX6_descentSum 21 = .ok (.iand, 1) := by decide +kernel
theorem dX6_descentSum_22 : decode cX6_descentSum 22 = .ok (.iconst 1, 1) := by decide +kernel
theorem dX6_descentSum_23 : decode cX6_descentSum 23 = .ok (.if_icmp .ne 9, 3) := by decide +kernel
theorem dX6_descentSum_26 : decode cX6_descentSum 26 = .ok (.iload_n 3, 1) := by decide +kernel
theorem dX6_descentSum_27 : decode cX6_descentSum 27 = .ok (.iconst 1, 1) := by decide +kernel
theorem dX6_descentSum_28 : decode cX6_descentSum 28 = .ok (.iadd, 1) := by decide +kernel
theorem dX6_descentSum_29 : decode cX6_descentSum 29 = .ok (.goto 4, 3) := by decide +kernel
theorem dX6_descentSum_32 : decode cX6_descentSum 32 = .ok (.iconst 0, 1) := by decide +kernel
theorem dX6_descentSum_33 : decode cX6_descentSum 33 = .ok (.iadd, 1) := by decide +kernel
theorem dX6_descentSum_34 : decode cX6_descentSum 34 = .ok (.istore_n 2, 1) := by decide +kernel
theorem dX6_descentSum_35 : decode cX6_descentSum 35 = .ok (.iinc 3 1, 3) := by decide +kernel
theorem dX6_descentSum_38 : decode cX6_descentSum 38 = .ok (.goto (-34), 3) := by decide +kernel
theorem dX6_descentSum_41 : decode cX6_descentSum 41 = .ok (.iload_n 2, 1) := by decide +kernel
theorem dX6_descentSum_42 : decode cX6_descentSum 42 = .ok (.ireturn, 1) := by decide +kernel
set_option maxRecDepth 20000 in
theorem ggX6_productOf_X6_n : GoodIn wsX6_productOf wsX6_n := goodIn_r _ [6, 7, 33, 34, 35, 36, 37, 38, 39, 40, 41, 42, 43, 44, 45, 46, 47, 48, 49, 50, 51, 52, 53] (by decide +kernel) (by decide +kernel)
set_option maxRecDepth 20000 in
theorem gX6_productOf_X6_n : GoodIn wsX6_productOf (wsV RX6 54 RX6 yX6_n wsX6_n) := goodIn_app (goodIn_of _ (by decide +kernel)) ggX6_productOf_X6_n
set_option maxRecDepth 20000 in
theorem ggX6_productOf_X6_at : GoodIn wsX6_productOf wsX6_at := goodIn_r _ [11, 12, 13, 14, 15, 5, 16, 17, 1, 2, 3, 4, 6, 7, 18, 19, 20, 21, 22, 23, 24, 25, 26, 27, 28, 33, 34, 35, 36, 37, 38, 39, 40, 41, 42, 43, 44, 45, 46, 47, 48, 49, 50, 51, 52, 53] (by decide +kernel) (by decide +kernel)
set_option maxRecDepth 20000 in
theorem gX6_productOf_X6_at : GoodIn wsX6_productOf (wsV RX6 79 RX6 yX6_at wsX6_at) := goodIn_app (goodIn_of _ (by decide +kernel)) ggX6_productOf_X6_at
set_option maxRecDepth 20000 in
theorem ggX6_productOf_X6_numberOfWord : GoodIn wsX6_productOf wsX6_numberOfWord := goodIn_r _ [32, 1, 2, 3, 4, 5, 6, 7, 33, 34, 35, 36, 37, 38, 39, 40, 41, 42, 43, 44, 45, 46, 47, 48, 49, 50, 51, 52, 53] (by decide +kernel) (by decide +kernel)
set_option maxRecDepth 20000 in
theorem gX6_productOf_X6_numberOfWord : GoodIn wsX6_productOf (wsV RX6 83 RX6 yX6_numberOfWord wsX6_numberOfWord) := goodIn_app (goodIn_of _ (by decide +kernel)) ggX6_productOf_X6_numberOfWord
theorem dX6_productOf_0 : decode cX6_productOf 0 = .ok (.iconst 0, 1) := by decide +kernel
theorem dX6_productOf_1 : decode cX6_productOf 1 = .ok (.istore_n 3, 1) := by decide +kernel
theorem dX6_productOf_2 : decode cX6_productOf 2 = .ok (.iload_n 3, 1) := by decide +kernel
theorem dX6_productOf_3 : decode cX6_productOf 3 = .ok (.aload_n 0, 1) := by decide +kernel
theorem dX6_productOf_4 : decode cX6_productOf 4 = .ok (.invokevirtual 54, 3) := by decide +kernel
theorem dX6_productOf_7 : decode cX6_productOf 7 = .ok (.if_icmp .ge 28, 3) := by decide +kernel
theorem dX6_productOf_10 : decode cX6_productOf 10 = .ok (.aload_n 0, 1) := by decide +kernel
theorem dX6_productOf_11 : decode cX6_productOf 11 = .ok (.getfield 16, 3) := by decide +kernel
theorem dX6_productOf_14 : decode cX6_productOf 14 = .ok (.iload_n 3, 1) := by decide +kernel
theorem dX6_productOf_15 : decode cX6_productOf 15 = .ok (.aload_n 0, 1) := by decide +kernel
theorem dX6_productOf_16 : decode cX6_productOf 16 = .ok (.iload_n 1, 1) := by decide +kernel
theorem dX6_productOf_17 : decode cX6_productOf 17 = .ok (.aload_n 0, 1) := by decide +kernel
theorem dX6_productOf_18 : decode cX6_productOf 18 = .ok (.iload_n 2, 1) := by decide +kernel
theorem dX6_productOf_19 : decode cX6_productOf 19 = .ok (.iload_n 3, 1) := by decide +kernel
theorem dX6_productOf_20 : decode cX6_productOf 20 = .ok (.invokevirtual 79, 3) := by decide +kernel
theorem dX6_productOf_23 : decode cX6_productOf 23 = .ok (.iconst 1, 1) := by decide +kernel
theorem dX6_productOf_24 : decode cX6_productOf 24 = .ok (.isub, 1) := by decide +kernel
theorem dX6_productOf_25 : decode cX6_productOf 25 = .ok (.invokevirtual 79, 3) := by decide +kernel
theorem dX6_productOf_28 : decode cX6_productOf 28 = .ok (.iastore, 1) := by decide +kernel
theorem dX6_productOf_29 : decode cX6_productOf 29 = .ok (.iinc 3 1, 3) := by decide +kernel
theorem dX6_productOf_32 : decode cX6_productOf 32 = .ok (.goto (-30), 3) := by decide +kernel
theorem dX6_productOf_35 : decode cX6_productOf 35 = .ok (.aload_n 0, 1) := by decide +kernel
theorem dX6_productOf_36 : decode cX6_productOf 36 = .ok (.invokevirtual 83, 3) := by decide +kernel
theorem dX6_productOf_39 : decode cX6_productOf 39 = .ok (.ireturn, 1) := by decide +kernel
set_option maxRecDepth 20000 in
theorem ggX6_orderOf_X6_isOrder : GoodIn wsX6_orderOf wsX6_isOrder := goodIn_r _ [8, 9, 10, 11, 7, 12, 13, 14, 15, 16, 17, 18, 19, 20, 21, 22, 23, 67, 68, 69, 70, 71, 72, 73, 74, 75, 76, 77, 78, 79, 80, 81, 82, 83, 84, 85, 86, 87] (by decide +kernel) (by decide +kernel)
set_option maxRecDepth 20000 in
theorem gX6_orderOf_X6_isOrder : GoodIn wsX6_orderOf (wsV RX6 89 RX6 yX6_isOrder wsX6_isOrder) := goodIn_app (goodIn_of _ (by decide +kernel)) ggX6_orderOf_X6_isOrder
set_option maxRecDepth 20000 in
theorem ggX6_orderOf_X6_in : GoodIn wsX6_orderOf wsX6_in := goodIn_r _ [23] (by decide +kernel) (by decide +kernel)
set_option maxRecDepth 20000 in
theorem gX6_orderOf_X6_in : GoodIn wsX6_orderOf (va_wsS RX6 75 yX6_in wsX6_in) := goodIn_app (goodIn_of _ (by decide +kernel)) ggX6_orderOf_X6_in
set_option maxRecDepth 20000 in
theorem ggX6_orderOf_X6_n : GoodIn wsX6_orderOf wsX6_n := goodIn_r _ [16, 17, 67, 68, 69, 70, 71, 72, 73, 74, 75, 76, 77, 78, 79, 80, 81, 82, 83, 84, 85, 86, 87] (by decide +kernel) (by decide +kernel)
set_option maxRecDepth 20000 in
theorem gX6_orderOf_X6_n : GoodIn wsX6_orderOf (wsV RX6 54 RX6 yX6_n wsX6_n) := goodIn_app (goodIn_of _ (by decide +kernel)) ggX6_orderOf_X6_n
set_option maxRecDepth 20000 in
theorem ggX6_orderOf_X6_descents : GoodIn wsX6_orderOf wsX6_descents := goodIn_r _ [27, 13, 14, 15, 7, 16, 17, 28, 29, 30, 31, 32, 33, 34, 35, 36, 37, 38, 9, 10, 11, 12, 18, 19, 20, 39, 40, 41, 42, 67, 68, 69, 70, 71, 72, 73, 74, 75, 76, 77, 78, 79, 80, 81, 82, 83, 84, 85, 86, 87] (by decide +kernel) (by decide +kernel)
set_option maxRecDepth 20000 in
theorem gX6_orderOf_X6_descents : GoodIn wsX6_orderOf (wsV RX6 86 RX6 yX6_descents wsX6_descents) := goodIn_app (goodIn_of _ (by decide +kernel)) ggX6_orderOf_X6_descents
set_option maxRecDepth 20000 in
theorem ggX6_orderOf_X6_peaks : GoodIn wsX6_orderOf wsX6_peaks := goodIn_r _ [46, 13, 14, 15, 7, 16, 17, 28, 29, 30, 31, 32, 33, 34, 35, 36, 37, 38, 9, 10, 11, 12, 18, 19, 20, 39, 40, 41, 42, 67, 68, 69, 70, 71, 72, 73, 74, 75, 76, 77, 78, 79, 80, 81, 82, 83, 84, 85, 86, 87] (by decide +kernel) (by decide +kernel)
set_option maxRecDepth 20000 in
theorem gX6_orderOf_X6_peaks : GoodIn wsX6_orderOf (wsV RX6 98 RX6 yX6_peaks wsX6_peaks) := goodIn_app (goodIn_of _ (by decide +kernel)) ggX6_orderOf_X6_peaks
set_option maxRecDepth 20000 in
theorem ggX6_orderOf_X6_inversions : GoodIn wsX6_orderOf wsX6_inversions := goodIn_r _ [50, 13, 14, 15, 7, 16, 17, 28, 29, 30, 31, 32, 33, 34, 35, 36, 37, 38, 9, 10, 11, 12, 18, 19, 20, 39, 40, 41, 42, 67, 68, 69, 70, 71, 72, 73, 74, 75, 76, 77, 78, 79, 80, 81, 82, 83, 84, 85, 86, 87] (by decide +kernel) (by decide +kernel)
set_option maxRecDepth 20000 in
theorem gX6_orderOf_X6_inversions : GoodIn wsX6_orderOf (wsV RX6 101 RX6 yX6_inversions wsX6_inversions) := goodIn_app (goodIn_of _ (by decide +kernel)) ggX6_orderOf_X6_inversions
set_option maxRecDepth 20000 in
theorem ggX6_orderOf_X6_inverse : GoodIn wsX6_orderOf wsX6_inverse := goodIn_r _ [54, 38, 13, 14, 15, 7, 16, 17, 28, 29, 30, 31, 32, 33, 34, 35, 36, 37, 9, 10, 11, 12, 18, 19, 20, 39, 40, 41, 42, 55, 56, 57, 58, 67, 68, 69, 70, 71, 72, 73, 74, 75, 76, 77, 78, 79, 80, 81, 82, 83, 84, 85, 86, 87] (by decide +kernel) (by decide +kernel)
set_option maxRecDepth 20000 in
theorem gX6_orderOf_X6_inverse : GoodIn wsX6_orderOf (wsV RX6 104 RX6 yX6_inverse wsX6_inverse) := goodIn_app (goodIn_of _ (by decide +kernel)) ggX6_orderOf_X6_inverse
set_option maxRecDepth 20000 in
theorem ggX6_orderOf_X6_descentSum : GoodIn wsX6_orderOf wsX6_descentSum := goodIn_r _ [62, 13, 14, 15, 7, 16, 17, 24, 25, 26, 27, 28, 29, 30, 31, 32, 33, 34, 35, 36, 37, 38, 9, 10, 11, 12, 18, 19, 20, 39, 40, 41, 42, 67, 68, 69, 70, 71, 72, 73, 74, 75, 76, 77, 78, 79, 80, 81, 82, 83, 84, 85, 86, 87] (by decide +kernel) (by decide +kernel)
set_option maxRecDepth 20000 in
theorem gX6_orderOf_X6_descentSum : GoodIn wsX6_orderOf (wsV RX6 107 RX6 yX6_descentSum wsX6_descentSum) := goodIn_app (goodIn_of _ (by decide +kernel)) ggX6_orderOf_X6_descentSum
set_option maxRecDepth 20000 in
theorem ggX6_orderOf_X6_rings : GoodIn wsX6_orderOf wsX6_rings := goodIn_r _ [66, 13, 14, 15, 7, 16, 17, 28, 29, 30, 31, 32, 33, 34, 35, 36, 37, 38, 9, 10, 11, 12, 18, 19, 20, 39, 40, 41, 42, 67, 68, 69, 70, 71, 72, 73, 74, 75, 76, 77, 78, 79, 80, 81, 82, 83, 84, 85, 86, 87] (by decide +kernel) (by decide +kernel)
set_option maxRecDepth 20000 in
theorem gX6_orderOf_X6_rings : GoodIn wsX6_orderOf (wsV RX6 110 RX6 yX6_rings wsX6_rings) := goodIn_app (goodIn_of _ (by decide +kernel)) ggX6_orderOf_X6_rings
set_option maxRecDepth 20000 in
theorem ggX6_orderOf_X6_at : GoodIn wsX6_orderOf wsX6_at := goodIn_r _ [31, 32, 33, 34, 35, 7, 36, 37, 38, 13, 14, 15, 16, 17, 9, 10, 11, 12, 18, 19, 20, 39, 40, 41, 42, 67, 68, 69, 70, 71, 72, 73, 74, 75, 76, 77, 78, 79, 80, 81, 82, 83, 84, 85, 86, 87] (by decide +kernel) (by decide +kernel)
set_option maxRecDepth 20000 in
theorem gX6_orderOf_X6_at : GoodIn wsX6_orderOf (wsV RX6 79 RX6 yX6_at wsX6_at) := goodIn_app (goodIn_of _ (by decide +kernel)) ggX6_orderOf_X6_at
theorem dX6_orderOf_0 : decode cX6_orderOf 0 = .ok (.aload_n 0, 1) := by decide +kernel
theorem dX6_orderOf_1 : decode cX6_orderOf 1 = .ok (.iload_n 1, 1) := by decide +kernel
theorem dX6_orderOf_2 : decode cX6_orderOf 2 = .ok (.invokevirtual 89, 3) := by decide +kernel
theorem dX6_orderOf_5 : decode cX6_orderOf 5 = .ok (.ifCond .eq 34, 3) := by decide +kernel
theorem dX6_orderOf_8 : decode cX6_orderOf 8 = .ok (.iload_n 2, 1) := by decide +kernel
theorem dX6_orderOf_9 : decode cX6_orderOf 9 = .ok (.i2l, 1) := by decide +kernel
theorem dX6_orderOf_10 : decode cX6_orderOf 10 = .ok (.lconst 0, 1) := by decide +kernel
theorem dX6_orderOf_11 : decode cX6_orderOf 11 = .ok (.ldc2_w 93, 3) := by decide +kernel
theorem dX6_orderOf_14 : decode cX6_orderOf 14 = .ok (.invokestatic 75, 3) := by decide +kernel
theorem dX6_orderOf_17 : decode cX6_orderOf 17 = .ok (.ifCond .ne 25, 3) := by decide +kernel
theorem dX6_orderOf_20 : decode cX6_orderOf 20 = .ok (.iload_n 2, 1) := by decide +kernel
theorem dX6_orderOf_21 : decode cX6_orderOf 21 = .ok (.i2l, 1) := by decide +kernel
theorem dX6_orderOf_22 : decode cX6_orderOf 22 = .ok (.ldc2_w 95, 3) := by decide +kernel
theorem dX6_orderOf_25 : decode cX6_orderOf 25 = .ok (.bipush 9, 2) := by decide +kernel
theorem dX6_orderOf_27 : decode cX6_orderOf 27 = .ok (.aload_n 0, 1) := by decide +kernel
theorem dX6_orderOf_28 : decode cX6_orderOf 28 = .ok (.invokevirtual 54, 3) := by decide +kernel
theorem dX6_orderOf_31 : decode cX6_orderOf 31 = .ok (.iadd, 1) := by decide +kernel
theorem dX6_orderOf_32 : decode cX6_orderOf 32 = .ok (.i2l, 1) := by decide +kernel
theorem dX6_orderOf_33 : decode cX6_orderOf 33 = .ok (.invokestatic 75, 3) := by decide +kernel
theorem dX6_orderOf_36 : decode cX6_orderOf 36 = .ok (.ifCond .ne 6, 3) := by decide +kernel
theorem dX6_orderOf_39 : decode cX6_orderOf 39 = .ok (.ldc 97, 2) := by decide +kernel
theorem dX6_orderOf_41 : decode cX6_orderOf 41 = .ok (.ireturn, 1) := by decide +kernel
theorem dX6_orderOf_42 : decode cX6_orderOf 42 = .ok (.iload_n 2, 1) := by decide +kernel
theorem dX6_orderOf_43 : decode cX6_orderOf 43 = .ok (.tableswitch 85 0 6 #[41, 47, 53, 59, 67, 73, 79], 41) := by decide +kernel
theorem dX6_orderOf_84 : decode cX6_orderOf 84 = .ok (.aload_n 0, 1) := by decide +kernel
theorem dX6_orderOf_85 : decode cX6_orderOf 85 = .ok (.iload_n 1, 1) := by decide +kernel
theorem dX6_orderOf_86 : decode cX6_orderOf 86 = .ok (.invokevirtual 86, 3) := by decide +kernel
theorem dX6_orderOf_89 : decode cX6_orderOf 89 = .ok (.ireturn, 1) := by decide +kernel
theorem dX6_orderOf_90 : decode cX6_orderOf 90 = .ok (.aload_n 0, 1) := by decide +kernel
theorem dX6_orderOf_91 : decode cX6_orderOf 91 = .ok (.iload_n 1, 1) := by decide +kernel
theorem dX6_orderOf_92 : decode cX6_orderOf 92 = .ok (.invokevirtual 98, 3) := by decide +kernel
theorem dX6_orderOf_95 : decode cX6_orderOf 95 = .ok (.ireturn, 1) := by decide +kernel
theorem dX6_orderOf_96 : decode cX6_orderOf 96 = .ok (.aload_n 0, 1) := by decide +kernel
theorem dX6_orderOf_97 : decode cX6_orderOf 97 = .ok (.iload_n 1, 1) := by decide +kernel
theorem dX6_orderOf_98 : decode cX6_orderOf 98 = .ok (.invokevirtual 101, 3) := by decide +kernel
theorem dX6_orderOf_101 : decode cX6_orderOf 101 = .ok (.ireturn, 1) := by decide +kernel
theorem dX6_orderOf_102 : decode cX6_orderOf 102 = .ok (.aload_n 0, 1) := by decide +kernel
theorem dX6_orderOf_103 : decode cX6_orderOf 103 = .ok (.iload_n 1, 1) := by decide +kernel
theorem dX6_orderOf_104 : decode cX6_orderOf 104 = .ok (.invokevirtual 101, 3) := by decide +kernel
theorem dX6_orderOf_107 : decode cX6_orderOf 107 = .ok (.iconst 2, 1) := by decide +kernel
theorem dX6_orderOf_108 : decode cX6_orderOf 108 = .ok (.irem, 1) := by decide +kernel
theorem dX6_orderOf_109 : decode cX6_orderOf 109 = .ok (.ireturn, 1) := by decide +kernel
theorem dX6_orderOf_110 : decode cX6_orderOf 110 = .ok (.aload_n 0, 1) := by decide +kernel
theorem dX6_orderOf_111 : decode cX6_orderOf 111 = .ok (.iload_n 1, 1) := by decide +kernel
theorem dX6_orderOf_112 : decode cX6_orderOf 112 = .ok (.invokevirtual 104, 3) := by decide +kernel
theorem dX6_orderOf_115 : decode cX6_orderOf 115 = .ok (.ireturn, 1) := by decide +kernel
theorem dX6_orderOf_116 : decode cX6_orderOf 116 = .ok (.aload_n 0, 1) := by decide +kernel
theorem dX6_orderOf_117 : decode cX6_orderOf 117 = .ok (.iload_n 1, 1) := by decide +kernel
theorem dX6_orderOf_118 : decode cX6_orderOf 118 = .ok (.invokevirtual 107, 3) := by decide +kernel
theorem dX6_orderOf_121 : decode cX6_orderOf 121 = .ok (.ireturn, 1) := by decide +kernel
theorem dX6_orderOf_122 : decode cX6_orderOf 122 = .ok (.aload_n 0, 1) := by decide +kernel
theorem dX6_orderOf_123 : decode cX6_orderOf 123 = .ok (.iload_n 1, 1) := by decide +kernel
theorem dX6_orderOf_124 : decode cX6_orderOf 124 = .ok (.invokevirtual 110, 3) := by decide +kernel
theorem dX6_orderOf_127 : decode cX6_orderOf 127 = .ok (.ireturn, 1) := by decide +kernel
theorem dX6_orderOf_128 : decode cX6_orderOf 128 = .ok (.aload_n 0, 1) := by decide +kernel
theorem dX6_orderOf_129 : decode cX6_orderOf 129 = .ok (.iload_n 1, 1) := by decide +kernel
theorem dX6_orderOf_130 : decode cX6_orderOf 130 = .ok (.iload_n 2, 1) := by decide +kernel
theorem dX6_orderOf_131 : decode cX6_orderOf 131 = .ok (.bipush 10, 2) := by decide +kernel
theorem dX6_orderOf_133 : decode cX6_orderOf 133 = .ok (.isub, 1) := by decide +kernel
theorem dX6_orderOf_134 : decode cX6_orderOf 134 = .ok (.invokevirtual 79, 3) := by decide +kernel
theorem dX6_orderOf_137 : decode cX6_orderOf 137 = .ok (.ireturn, 1) := by decide +kernel
set_option maxRecDepth 20000 in
theorem ggX6_product_X6_isOrder : GoodIn wsX6_product wsX6_isOrder := goodIn_r _ [6, 7, 8, 9, 5, 10, 11, 12, 13, 14, 15, 16, 17, 18, 19, 20, 21, 45, 46, 47, 48, 49, 50, 51, 52, 53, 54, 55, 56, 57, 58, 59, 60, 61, 62, 63, 64, 65] (by decide +kernel) (by decide +kernel)
set_option maxRecDepth 20000 in
theorem gX6_product_X6_isOrder : GoodIn wsX6_product (wsV RX6 89 RX6 yX6_isOrder wsX6_isOrder) := goodIn_app (goodIn_of _ (by decide +kernel)) ggX6_product_X6_isOrder
set_option maxRecDepth 20000 in
theorem ggX6_product_X6_productOf : GoodIn wsX6_product wsX6_productOf := goodIn_r _ [25, 26, 11, 12, 13, 5, 14, 15, 27, 28, 29, 30, 31, 32, 33, 34, 35, 36, 7, 8, 9, 10, 16, 17, 18, 37, 38, 39, 40, 41, 42, 43, 44, 45, 46, 47, 48, 49, 50, 51, 52, 53, 54, 55, 56, 57, 58, 59, 60, 61, 62, 63, 64, 65] (by decide +kernel) (by decide +kernel)
set_option maxRecDepth 20000 in
theorem gX6_product_X6_productOf : GoodIn wsX6_product (wsV RX6 113 RX6 yX6_productOf wsX6_productOf) := goodIn_app (goodIn_of _ (by decide +kernel)) ggX6_product_X6_productOf
theorem dX6_product_0 : decode cX6_product 0 = .ok (.aload_n 0, 1) := by decide +kernel
theorem dX6_product_1 : decode cX6_product 1 = .ok (.iload_n 1, 1) := by decide +kernel
theorem dX6_product_2 : decode cX6_product 2 = .ok (.invokevirtual 89, 3) := by decide +kernel
theorem dX6_product_5 : decode cX6_product 5 = .ok (.ifCond .eq 20, 3) := by decide +kernel
theorem dX6_product_8 : decode cX6_product 8 = .ok (.aload_n 0, 1) := by decide +kernel
theorem dX6_product_9 : decode cX6_product 9 = .ok (.iload_n 2, 1) := by decide +kernel
theorem dX6_product_10 : decode cX6_product 10 = .ok (.invokevirtual 89, 3) := by decide +kernel
theorem dX6_product_13 : decode cX6_product 13 = .ok (.ifCond .eq 12, 3) := by decide +kernel
theorem dX6_product_16 : decode cX6_product 16 = .ok (.aload_n 0, 1) := by decide +kernel
theorem dX6_product_17 : decode cX6_product 17 = .ok (.iload_n 1, 1) := by decide +kernel
theorem dX6_product_18 : decode cX6_product 18 = .ok (.iload_n 2, 1) := by decide +kernel
theorem dX6_product_19 : decode cX6_product 19 = .ok (.invokevirtual 113, 3) := by decide +kernel
theorem dX6_product_22 : decode cX6_product 22 = .ok (.goto 5, 3) := by decide +kernel
theorem dX6_product_25 : decode cX6_product 25 = .ok (.ldc 97, 2) := by decide +kernel
theorem dX6_product_27 : decode cX6_product 27 = .ok (.ireturn, 1) := by decide +kernel
set_option maxRecDepth 20000 in
theorem ggX6_isSum_X6_in : GoodIn wsX6_isSum wsX6_in := goodIn_r _ [5] (by decide +kernel) (by decide +kernel)
set_option maxRecDepth 20000 in
theorem gX6_isSum_X6_in : GoodIn wsX6_isSum (va_wsS RX6 75 yX6_in wsX6_in) := goodIn_app (goodIn_of _ (by decide +kernel)) ggX6_isSum_X6_in
theorem dX6_isSum_0 : decode cX6_isSum 0 = .ok (.iload_n 0, 1) := by decide +kernel
theorem dX6_isSum_1 : decode cX6_isSum 1 = .ok (.i2l, 1) := by decide +kernel
theorem dX6_isSum_2 : decode cX6_isSum 2 = .ok (.lconst 0, 1) := by decide +kernel
theorem dX6_isSum_3 : decode cX6_isSum 3 = .ok (.ldc2_w 116, 3) := by decide +kernel
theorem dX6_isSum_6 : decode cX6_isSum 6 = .ok (.invokestatic 75, 3) := by decide +kernel
theorem dX6_isSum_9 : decode cX6_isSum 9 = .ok (.ireturn, 1) := by decide +kernel
theorem dX6_get_0 : decode cX6_get 0 = .ok (.aload_n 0, 1) := by decide +kernel
theorem dX6_get_1 : decode cX6_get 1 = .ok (.getfield 7, 3) := by decide +kernel
theorem dX6_get_4 : decode cX6_get 4 = .ok (.iconst 4, 1) := by decide +kernel
theorem dX6_get_5 : decode cX6_get 5 = .ok (.bipush 120, 2) := by decide +kernel
theorem dX6_get_7 : decode cX6_get 7 = .ok (.iload_n 1, 1) := by decide +kernel
theorem dX6_get_8 : decode cX6_get 8 = .ok (.imul, 1) := by decide +kernel
theorem dX6_get_9 : decode cX6_get 9 = .ok (.iadd, 1) := by decide +kernel
theorem dX6_get_10 : decode cX6_get 10 = .ok (.iload_n 2, 1) := by decide +kernel
theorem dX6_get_11 : decode cX6_get 11 = .ok (.iadd, 1) := by decide +kernel
theorem dX6_get_12 : decode cX6_get 12 = .ok (.iaload, 1) := by decide +kernel
theorem dX6_get_13 : decode cX6_get 13 = .ok (.ireturn, 1) := by decide +kernel
theorem dX6_empties_0 : decode cX6_empties 0 = .ok (.iconst 0, 1) := by decide +kernel
theorem dX6_empties_1 : decode cX6_empties 1 = .ok (.istore_n 1, 1) := by decide +kernel
theorem dX6_empties_2 : decode cX6_empties 2 = .ok (.iload_n 1, 1) := by decide +kernel
theorem dX6_empties_3 : decode cX6_empties 3 = .ok (.bipush 120, 2) := by decide +kernel
theorem dX6_empties_5 : decode cX6_empties 5 = .ok (.if_icmp .ge 16, 3) := by decide +kernel
theorem dX6_empties_8 : decode cX6_empties 8 = .ok (.aload_n 0, 1) := by decide +kernel
theorem dX6_empties_9 : decode cX6_empties 9 = .ok (.getfield 22, 3) := by decide +kernel
theorem dX6_empties_12 : decode cX6_empties 12 = .ok (.iload_n 1, 1) := by decide +kernel
theorem dX6_empties_13 : decode cX6_empties 13 = .ok (.lconst 0, 1) := by decide +kernel
theorem dX6_empties_14 : decode cX6_empties 14 = .ok (.lastore, 1) := by decide +kernel
theorem dX6_empties_15 : decode cX6_empties 15 = .ok (.iinc 1 1, 3) := by decide +kernel
theorem dX6_empties_18 : decode cX6_empties 18 = .ok (.goto (-16), 3) := by decide +kernel
theorem dX6_empties_21 : decode cX6_empties 21 = .ok (.return_, 1) := by decide +kernel
set_option maxRecDepth 20000 in
theorem ggX6_begins_X6_get : GoodIn wsX6_begins wsX6_get := goodIn_r _ [6, 7, 8, 9, 10, 11, 12, 13, 14, 15, 16, 17, 18, 19, 20, 21, 22, 23, 24, 25, 26, 27, 28] (by decide +kernel) (by decide +kernel)
set_option maxRecDepth 20000 in
theorem gX6_begins_X6_get : GoodIn wsX6_begins (wsV RX6 118 RX6 yX6_get wsX6_get) := goodIn_app (goodIn_of _ (by decide +kernel)) ggX6_begins_X6_get
theorem dX6_begins_0 : decode cX6_begins 0 = .ok (.iconst 0, 1) := by decide +kernel
theorem dX6_begins_1 : decode cX6_begins 1 = .ok (.istore_n 2, 1) := by decide +kernel
theorem dX6_begins_2 : decode cX6_begins 2 = .ok (.iload_n 2, 1) := by decide +kernel
theorem dX6_begins_3 : decode cX6_begins 3 = .ok (.bipush 120, 2) := by decide +kernel
theorem dX6_begins_5 : decode cX6_begins 5 = .ok (.if_icmp .ge 22, 3) := by decide +kernel
theorem dX6_begins_8 : decode cX6_begins 8 = .ok (.aload_n 0, 1) := by decide +kernel
theorem dX6_begins_9 : decode cX6_begins 9 = .ok (.getfield 22, 3) := by decide +kernel
theorem dX6_begins_12 : decode cX6_begins 12 = .ok (.iload_n 2, 1) := by decide +kernel
theorem dX6_begins_13 : decode cX6_begins 13 = .ok (.aload_n 0, 1) := by decide +kernel
theorem dX6_begins_14 : decode cX6_begins 14 = .ok (.iload_n 1, 1) := by decide +kernel
theorem dX6_begins_15 : decode cX6_begins 15 = .ok (.iload_n 2, 1) := by decide +kernel
theorem dX6_begins_16 : decode cX6_begins 16 = .ok (.invokevirtual 118, 3) := by decide +kernel
theorem dX6_begins_19 : decode cX6_begins 19 = .ok (.i2l, 1) := by decide +kernel
theorem dX6_begins_20 : decode cX6_begins 20 = .ok (.lastore, 1) := by decide +kernel
theorem dX6_begins_21 : decode cX6_begins 21 = .ok (.iinc 2 1, 3) := by decide +kernel
theorem dX6_begins_24 : decode cX6_begins 24 = .ok (.goto (-22), 3) := by decide +kernel
theorem dX6_begins_27 : decode cX6_begins 27 = .ok (.return_, 1) := by decide +kernel
set_option maxRecDepth 20000 in
theorem ggX6_others_X6_get : GoodIn wsX6_others wsX6_get := goodIn_r _ [5, 6, 7, 8, 9, 10, 11, 12, 13, 14, 15, 16, 17, 18, 19, 20, 21, 22, 23, 24, 25, 26, 27] (by decide +kernel) (by decide +kernel)
set_option maxRecDepth 20000 in
theorem gX6_others_X6_get : GoodIn wsX6_others (wsV RX6 118 RX6 yX6_get wsX6_get) := goodIn_app (goodIn_of _ (by decide +kernel)) ggX6_others_X6_get
theorem dX6_others_0 : decode cX6_others 0 = .ok (.iconst 0, 1) := by decide +kernel
theorem dX6_others_1 : decode cX6_others 1 = .ok (.istore_n 2, 1) := by decide +kernel
theorem dX6_others_2 : decode cX6_others 2 = .ok (.iconst 0, 1) := by decide +kernel
theorem dX6_others_3 : decode cX6_others 3 = .ok (.istore_n 3, 1) := by decide +kernel
theorem dX6_others_4 : decode cX6_others 4 = .ok (.iload_n 3, 1) := by decide +kernel
theorem dX6_others_5 : decode cX6_others 5 = .ok (.bipush 120, 2) := by decide +kernel
theorem dX6_others_7 : decode cX6_others 7 = .ok (.if_icmp .ge 26, 3) := by decide +kernel
theorem dX6_others_10 : decode cX6_others 10 = .ok (.iload_n 2, 1) := by decide +kernel
theorem dX6_others_11 : decode cX6_others 11 = .ok (.aload_n 0, 1) := by decide +kernel
theorem dX6_others_12 : decode cX6_others 12 = .ok (.iload_n 1, 1) := by decide +kernel
theorem dX6_others_13 : decode cX6_others 13 = .ok (.iload_n 3, 1) := by decide +kernel
theorem dX6_others_14 : decode cX6_others 14 = .ok (.invokevirtual 118, 3) := by decide +kernel
theorem dX6_others_17 : decode cX6_others 17 = .ok (.ifCond .ne 7, 3) := by decide +kernel
theorem dX6_others_20 : decode cX6_others 20 = .ok (.iconst 0, 1) := by decide +kernel
theorem dX6_others_21 : decode cX6_others 21 = .ok (.goto 4, 3) := by decide +kernel
theorem dX6_others_24 : decode cX6_others 24 = .ok (.iconst 1, 1) := by decide +kernel
theorem dX6_others_25 : decode cX6_others 25 = .ok (.iadd, 1) := by decide +kernel
theorem dX6_others_26 : decode cX6_others 26 = .ok (.istore_n 2, 1) := by decide +kernel
theorem dX6_others_27 : decode cX6_others 27 = .ok (.iinc 3 1, 3) := by decide +kernel
theorem dX6_others_30 : decode cX6_others 30 = .ok (.goto (-26), 3) := by decide +kernel
theorem dX6_others_33 : decode cX6_others 33 = .ok (.iload_n 2, 1) := by decide +kernel
theorem dX6_others_34 : decode cX6_others 34 = .ok (.ireturn, 1) := by decide +kernel
set_option maxRecDepth 20000 in
theorem ggX6_becomes_X6_in : GoodIn wsX6_becomes wsX6_in := goodIn_r _ [9] (by decide +kernel) (by decide +kernel)
set_option maxRecDepth 20000 in
theorem gX6_becomes_X6_in : GoodIn wsX6_becomes (va_wsS RX6 75 yX6_in wsX6_in) := goodIn_app (goodIn_of _ (by decide +kernel)) ggX6_becomes_X6_in
set_option maxRecDepth 20000 in
theorem ggX6_becomes_X6_record : GoodIn wsX6_becomes wsX6_record := goodIn_r _ [13, 14, 15, 5, 16, 17, 18, 19, 20, 21, 22, 23, 24, 25, 26, 27, 28, 29, 30, 31, 32, 33, 34, 35, 36] (by decide +kernel) (by decide +kernel)
set_option maxRecDepth 20000 in
theorem gX6_becomes_X6_record : GoodIn wsX6_becomes (wsV RX6 126 RX6 yX6_record wsX6_record) := goodIn_app (goodIn_of _ (by decide +kernel)) ggX6_becomes_X6_record
theorem dX6_becomes_0 : decode cX6_becomes 0 = .ok (.iconst 0, 1) := by decide +kernel
theorem dX6_becomes_1 : decode cX6_becomes 1 = .ok (.istore_n 3, 1) := by decide +kernel
theorem dX6_becomes_2 : decode cX6_becomes 2 = .ok (.iload_n 3, 1) := by decide +kernel
theorem dX6_becomes_3 : decode cX6_becomes 3 = .ok (.bipush 120, 2) := by decide +kernel
theorem dX6_becomes_5 : decode cX6_becomes 5 = .ok (.if_icmp .ge 30, 3) := by decide +kernel
theorem dX6_becomes_8 : decode cX6_becomes 8 = .ok (.aload_n 0, 1) := by decide +kernel
theorem dX6_becomes_9 : decode cX6_becomes 9 = .ok (.getfield 22, 3) := by decide +kernel
theorem dX6_becomes_12 : decode cX6_becomes 12 = .ok (.iload_n 3, 1) := by decide +kernel
theorem dX6_becomes_13 : decode cX6_becomes 13 = .ok (.laload, 1) := by decide +kernel
theorem dX6_becomes_14 : decode cX6_becomes 14 = .ok (.ldc2_w 121, 3) := by decide +kernel
theorem dX6_becomes_17 : decode cX6_becomes 17 = .ok (.ldc2_w 123, 3) := by decide +kernel
theorem dX6_becomes_20 : decode cX6_becomes 20 = .ok (.invokestatic 75, 3) := by decide +kernel
theorem dX6_becomes_23 : decode cX6_becomes 23 = .ok (.ifCond .ne 6, 3) := by decide +kernel
theorem dX6_becomes_26 : decode cX6_becomes 26 = .ok (.ldc 125, 2) := by decide +kernel
theorem dX6_becomes_28 : decode cX6_becomes 28 = .ok (.ireturn, 1) := by decide +kernel
theorem dX6_becomes_29 : decode cX6_becomes 29 = .ok (.iinc 3 1, 3) := by decide +kernel
theorem dX6_becomes_32 : decode cX6_becomes 32 = .ok (.goto (-30), 3) := by decide +kernel
theorem dX6_becomes_35 : decode cX6_becomes 35 = .ok (.aload_n 0, 1) := by decide +kernel
theorem dX6_becomes_36 : decode cX6_becomes 36 = .ok (.invokevirtual 126, 3) := by decide +kernel
theorem dX6_becomes_39 : decode cX6_becomes 39 = .ok (.iconst 0, 1) := by decide +kernel
theorem dX6_becomes_40 : decode cX6_becomes 40 = .ok (.istore_n 3, 1) := by decide +kernel
theorem dX6_becomes_41 : decode cX6_becomes 41 = .ok (.iload_n 3, 1) := by decide +kernel
theorem dX6_becomes_42 : decode cX6_becomes 42 = .ok (.bipush 120, 2) := by decide +kernel
theorem dX6_becomes_44 : decode cX6_becomes 44 = .ok (.if_icmp .ge 29, 3) := by decide +kernel
theorem dX6_becomes_47 : decode cX6_becomes 47 = .ok (.aload_n 0, 1) := by decide +kernel
theorem dX6_becomes_48 : decode cX6_becomes 48 = .ok (.getfield 7, 3) := by decide +kernel
theorem dX6_becomes_51 : decode cX6_becomes 51 = .ok (.iconst 4, 1) := by decide +kernel
theorem dX6_becomes_52 : decode cX6_becomes 52 = .ok (.bipush 120, 2) := by decide +kernel
theorem dX6_becomes_54 : decode cX6_becomes 54 = .ok (.iload_n 1, 1) := by decide +kernel
theorem dX6_becomes_55 : decode cX6_becomes 55 = .ok (.imul, 1) := by decide +kernel
theorem dX6_becomes_56 : decode cX6_becomes 56 = .ok (.iadd, 1) := by decide +kernel
theorem dX6_becomes_57 : decode cX6_becomes 57 = .ok (.iload_n 3, 1) := by decide +kernel
theorem dX6_becomes_58 : decode cX6_becomes 58 = .ok (.iadd, 1) := by decide +kernel
theorem dX6_becomes_59 : decode cX6_becomes 59 = .ok (.aload_n 0, 1) := by decide +kernel
theorem dX6_becomes_60 : decode cX6_becomes 60 = .ok (.getfield 22, 3) := by decide +kernel
theorem dX6_becomes_63 : decode cX6_becomes 63 = .ok (.iload_n 3, 1) := by decide +kernel
theorem dX6_becomes_64 : decode cX6_becomes 64 = .ok (.laload, 1) := by decide +kernel
theorem dX6_becomes_65 : decode cX6_becomes 65 = .ok (.l2i, 1) := by decide +kernel
theorem dX6_becomes_66 : decode cX6_becomes 66 = .ok (.iastore, 1) := by decide +kernel
theorem dX6_becomes_67 : decode cX6_becomes 67 = .ok (.iinc 3 1, 3) := by decide +kernel
theorem dX6_becomes_70 : decode cX6_becomes 70 = .ok (.goto (-29), 3) := by decide +kernel
theorem dX6_becomes_73 : decode cX6_becomes 73 = .ok (.iload_n 2, 1) := by decide +kernel
theorem dX6_becomes_74 : decode cX6_becomes 74 = .ok (.ireturn, 1) := by decide +kernel
set_option maxRecDepth 20000 in
theorem ggX6_begin_X6_in : GoodIn wsX6_begin wsX6_in := goodIn_r _ [7] (by decide +kernel) (by decide +kernel)
set_option maxRecDepth 20000 in
theorem gX6_begin_X6_in : GoodIn wsX6_begin (va_wsS RX6 75 yX6_in wsX6_in) := goodIn_app (goodIn_of _ (by decide +kernel)) ggX6_begin_X6_in
set_option maxRecDepth 20000 in
theorem ggX6_begin_X6_record : GoodIn wsX6_begin wsX6_record := goodIn_r _ [11, 12, 13, 3, 25, 26, 27, 28, 29, 30, 31, 32, 33, 34, 35, 36, 37, 38, 39, 40, 41, 42, 43, 44, 45] (by decide +kernel) (by decide +kernel)
set_option maxRecDepth 20000 in
theorem gX6_begin_X6_record : GoodIn wsX6_begin (wsV RX6 126 RX6 yX6_record wsX6_record) := goodIn_app (goodIn_of _ (by decide +kernel)) ggX6_begin_X6_record
set_option maxRecDepth 20000 in
theorem ggX6_begin_X6_orders : GoodIn wsX6_begin wsX6_orders := goodIn_r _ [17, 18, 19, 20, 6, 21, 3, 22, 23, 24, 25, 26, 27, 28, 29, 30, 31, 32, 33, 34, 35, 36, 37, 38, 39, 40, 41, 42, 43, 44, 45] (by decide +kernel) (by decide +kernel)
set_option maxRecDepth 20000 in
theorem gX6_begin_X6_orders : GoodIn wsX6_begin (wsV RX6 65 RX6 yX6_orders wsX6_orders) := goodIn_app (goodIn_of _ (by decide +kernel)) ggX6_begin_X6_orders
theorem dX6_begin_0 : decode cX6_begin 0 = .ok (.iload_n 1, 1) := by decide +kernel
theorem dX6_begin_1 : decode cX6_begin 1 = .ok (.i2l, 1) := by decide +kernel
theorem dX6_begin_2 : decode cX6_begin 2 = .ok (.lconst 1, 1) := by decide +kernel
theorem dX6_begin_3 : decode cX6_begin 3 = .ok (.ldc2_w 129, 3) := by decide +kernel
theorem dX6_begin_6 : decode cX6_begin 6 = .ok (.invokestatic 75, 3) := by decide +kernel
theorem dX6_begin_9 : decode cX6_begin 9 = .ok (.ifCond .ne 6, 3) := by decide +kernel
theorem dX6_begin_12 : decode cX6_begin 12 = .ok (.ldc 97, 2) := by decide +kernel
theorem dX6_begin_14 : decode cX6_begin 14 = .ok (.ireturn, 1) := by decide +kernel
theorem dX6_begin_15 : decode cX6_begin 15 = .ok (.aload_n 0, 1) := by decide +kernel
theorem dX6_begin_16 : decode cX6_begin 16 = .ok (.invokevirtual 126, 3) := by decide +kernel
theorem dX6_begin_19 : decode cX6_begin 19 = .ok (.iconst 0, 1) := by decide +kernel
theorem dX6_begin_20 : decode cX6_begin 20 = .ok (.istore_n 2, 1) := by decide +kernel
theorem dX6_begin_21 : decode cX6_begin 21 = .ok (.iload_n 2, 1) := by decide +kernel
theorem dX6_begin_22 : decode cX6_begin 22 = .ok (.sipush 364, 3) := by decide +kernel
theorem dX6_begin_25 : decode cX6_begin 25 = .ok (.if_icmp .ge 16, 3) := by decide +kernel
theorem dX6_begin_28 : decode cX6_begin 28 = .ok (.aload_n 0, 1) := by decide +kernel
theorem dX6_begin_29 : decode cX6_begin 29 = .ok (.getfield 7, 3) := by decide +kernel
theorem dX6_begin_32 : decode cX6_begin 32 = .ok (.iload_n 2, 1) := by decide +kernel
theorem dX6_begin_33 : decode cX6_begin 33 = .ok (.iconst 0, 1) := by decide +kernel
theorem dX6_begin_34 : decode cX6_begin 34 = .ok (.iastore, 1) := by decide +kernel
theorem dX6_begin_35 : decode cX6_begin 35 = .ok (.iinc 2 1, 3) := by decide +kernel
theorem dX6_begin_38 : decode cX6_begin 38 = .ok (.goto (-17), 3) := by decide +kernel
theorem dX6_begin_41 : decode cX6_begin 41 = .ok (.aload_n 0, 1) := by decide +kernel
theorem dX6_begin_42 : decode cX6_begin 42 = .ok (.getfield 7, 3) := by decide +kernel
theorem dX6_begin_45 : decode cX6_begin 45 = .ok (.iconst 0, 1) := by decide +kernel
theorem dX6_begin_46 : decode cX6_begin 46 = .ok (.iload_n 1, 1) := by decide +kernel
theorem dX6_begin_47 : decode cX6_begin 47 = .ok (.iastore, 1) := by decide +kernel
theorem dX6_begin_48 : decode cX6_begin 48 = .ok (.aload_n 0, 1) := by decide +kernel
theorem dX6_begin_49 : decode cX6_begin 49 = .ok (.invokevirtual 65, 3) := by decide +kernel
theorem dX6_begin_52 : decode cX6_begin 52 = .ok (.ireturn, 1) := by decide +kernel
set_option maxRecDepth 20000 in
theorem ggX6_add_X6_isSum : GoodIn wsX6_add wsX6_isSum := goodIn_r _ [8, 9, 10, 11, 7, 12] (by decide +kernel) (by decide +kernel)
set_option maxRecDepth 20000 in
theorem gX6_add_X6_isSum : GoodIn wsX6_add (va_wsS RX6 131 yX6_isSum wsX6_isSum) := goodIn_app (goodIn_of _ (by decide +kernel)) ggX6_add_X6_isSum
set_option maxRecDepth 20000 in
theorem ggX6_add_X6_isOrder : GoodIn wsX6_add wsX6_isOrder := goodIn_r _ [16, 17, 18, 19, 7, 20, 21, 22, 23, 24, 25, 26, 27, 28, 10, 11, 12, 50, 51, 52, 53, 54, 55, 56, 57, 58, 59, 60, 61, 62, 63, 64, 65, 66, 67, 68, 69, 70] (by decide +kernel) (by decide +kernel)
set_option maxRecDepth 20000 in
theorem gX6_add_X6_isOrder : GoodIn wsX6_add (wsV RX6 89 RX6 yX6_isOrder wsX6_isOrder) := goodIn_app (goodIn_of _ (by decide +kernel)) ggX6_add_X6_isOrder
set_option maxRecDepth 20000 in
theorem ggX6_add_X6_in : GoodIn wsX6_add wsX6_in := goodIn_r _ [12] (by decide +kernel) (by decide +kernel)
set_option maxRecDepth 20000 in
theorem gX6_add_X6_in : GoodIn wsX6_add (va_wsS RX6 75 yX6_in wsX6_in) := goodIn_app (goodIn_of _ (by decide +kernel)) ggX6_add_X6_in
set_option maxRecDepth 20000 in
theorem ggX6_add_X6_begins : GoodIn wsX6_add wsX6_begins := goodIn_r _ [32, 4, 33, 34, 35, 7, 36, 25, 50, 51, 52, 53, 54, 55, 56, 57, 58, 59, 60, 61, 62, 63, 64, 65, 66, 67, 68, 69, 70] (by decide +kernel) (by decide +kernel)
set_option maxRecDepth 20000 in
theorem gX6_add_X6_begins : GoodIn wsX6_add (wsV RX6 138 RX6 yX6_begins wsX6_begins) := goodIn_app (goodIn_of _ (by decide +kernel)) ggX6_add_X6_begins
set_option maxRecDepth 20000 in
theorem ggX6_add_X6_becomes : GoodIn wsX6_add wsX6_becomes := goodIn_r _ [40, 4, 41, 42, 43, 25, 10, 11, 7, 12, 44, 45, 46, 47, 48, 49, 50, 51, 52, 53, 54, 55, 56, 57, 58, 59, 60, 61, 62, 63, 64, 65, 66, 67, 68, 69, 70] (by decide +kernel) (by decide +kernel)
set_option maxRecDepth 20000 in
theorem gX6_add_X6_becomes : GoodIn wsX6_add (wsV RX6 142 RX6 yX6_becomes wsX6_becomes) := goodIn_app (goodIn_of _ (by decide +kernel)) ggX6_add_X6_becomes
theorem dX6_add_0 : decode cX6_add 0 = .ok (.iload_n 1, 1) := by decide +kernel
theorem dX6_add_1 : decode cX6_add 1 = .ok (.invokestatic 131, 3) := by decide +kernel
theorem dX6_add_4 : decode cX6_add 4 = .ok (.ifCond .eq 25, 3) := by decide +kernel
theorem dX6_add_7 : decode cX6_add 7 = .ok (.aload_n 0, 1) := by decide +kernel
theorem dX6_add_8 : decode cX6_add 8 = .ok (.iload_n 2, 1) := by decide +kernel
theorem dX6_add_9 : decode cX6_add 9 = .ok (.invokevirtual 89, 3) := by decide +kernel
theorem dX6_add_12 : decode cX6_add 12 = .ok (.ifCond .eq 17, 3) := by decide +kernel
theorem dX6_add_15 : decode cX6_add 15 = .ok (.iload_n 3, 1) := by decide +kernel
theorem dX6_add_16 : decode cX6_add 16 = .ok (.i2l, 1) := by decide +kernel
theorem dX6_add_17 : decode cX6_add 17 = .ok (.ldc2_w 134, 3) := by decide +kernel
theorem dX6_add_20 : decode cX6_add 20 = .ok (.ldc2_w 136, 3) := by decide +kernel
theorem dX6_add_23 : decode cX6_add 23 = .ok (.invokestatic 75, 3) := by decide +kernel
theorem dX6_add_26 : decode cX6_add 26 = .ok (.ifCond .ne 6, 3) := by decide +kernel
theorem dX6_add_29 : decode cX6_add 29 = .ok (.ldc 97, 2) := by decide +kernel
theorem dX6_add_31 : decode cX6_add 31 = .ok (.ireturn, 1) := by decide +kernel
theorem dX6_add_32 : decode cX6_add 32 = .ok (.aload_n 0, 1) := by decide +kernel
theorem dX6_add_33 : decode cX6_add 33 = .ok (.iload_n 1, 1) := by decide +kernel
theorem dX6_add_34 : decode cX6_add 34 = .ok (.invokevirtual 138, 3) := by decide +kernel
theorem dX6_add_37 : decode cX6_add 37 = .ok (.aload_n 0, 1) := by decide +kernel
theorem dX6_add_38 : decode cX6_add 38 = .ok (.getfield 22, 3) := by decide +kernel
theorem dX6_add_41 : decode cX6_add 41 = .ok (.iload_n 2, 1) := by decide +kernel
theorem dX6_add_42 : decode cX6_add 42 = .ok (.dup2, 1) := by decide +kernel
theorem dX6_add_43 : decode cX6_add 43 = .ok (.laload, 1) := by decide +kernel
theorem dX6_add_44 : decode cX6_add 44 = .ok (.iload_n 3, 1) := by decide +kernel
theorem dX6_add_45 : decode cX6_add 45 = .ok (.i2l, 1) := by decide +kernel
theorem dX6_add_46 : decode cX6_add 46 = .ok (.ladd, 1) := by decide +kernel
theorem dX6_add_47 : decode cX6_add 47 = .ok (.lastore, 1) := by decide +kernel
theorem dX6_add_48 : decode cX6_add 48 = .ok (.aload_n 0, 1) := by decide +kernel
theorem dX6_add_49 : decode cX6_add 49 = .ok (.iload_n 1, 1) := by decide +kernel
theorem dX6_add_50 : decode cX6_add 50 = .ok (.aload_n 0, 1) := by decide +kernel
theorem dX6_add_51 : decode cX6_add 51 = .ok (.getfield 22, 3) := by decide +kernel
theorem dX6_add_54 : decode cX6_add 54 = .ok (.iload_n 2, 1) := by decide +kernel
theorem dX6_add_55 : decode cX6_add 55 = .ok (.laload, 1) := by decide +kernel
theorem dX6_add_56 : decode cX6_add 56 = .ok (.l2i, 1) := by decide +kernel
theorem dX6_add_57 : decode cX6_add 57 = .ok (.invokevirtual 142, 3) := by decide +kernel
theorem dX6_add_60 : decode cX6_add 60 = .ok (.ireturn, 1) := by decide +kernel
set_option maxRecDepth 20000 in
theorem ggX6_isSet_X6_n : GoodIn wsX6_isSet wsX6_n := goodIn_r _ [5, 6, 10, 11, 12, 13, 14, 15, 16, 17, 18, 19, 20, 21, 22, 23, 24, 25, 26, 27, 28, 29, 30] (by decide +kernel) (by decide +kernel)
set_option maxRecDepth 20000 in
theorem gX6_isSet_X6_n : GoodIn wsX6_isSet (wsV RX6 54 RX6 yX6_n wsX6_n) := goodIn_app (goodIn_of _ (by decide +kernel)) ggX6_isSet_X6_n
set_option maxRecDepth 20000 in
theorem ggX6_isSet_X6_in : GoodIn wsX6_isSet wsX6_in := goodIn_r _ [9] (by decide +kernel) (by decide +kernel)
set_option maxRecDepth 20000 in
theorem gX6_isSet_X6_in : GoodIn wsX6_isSet (va_wsS RX6 75 yX6_in wsX6_in) := goodIn_app (goodIn_of _ (by decide +kernel)) ggX6_isSet_X6_in
theorem dX6_isSet_0 : decode cX6_isSet 0 = .ok (.iload_n 1, 1) := by decide +kernel
theorem dX6_isSet_1 : decode cX6_isSet 1 = .ok (.i2l, 1) := by decide +kernel
theorem dX6_isSet_2 : decode cX6_isSet 2 = .ok (.lconst 0, 1) := by decide +kernel
theorem dX6_isSet_3 : decode cX6_isSet 3 = .ok (.iconst 1, 1) := by decide +kernel
theorem dX6_isSet_4 : decode cX6_isSet 4 = .ok (.aload_n 0, 1) := by decide +kernel
theorem dX6_isSet_5 : decode cX6_isSet 5 = .ok (.invokevirtual 54, 3) := by decide +kernel
theorem dX6_isSet_8 : decode cX6_isSet 8 = .ok (.iconst 1, 1) := by decide +kernel
theorem dX6_isSet_9 : decode cX6_isSet 9 = .ok (.isub, 1) := by decide +kernel
theorem dX6_isSet_10 : decode cX6_isSet 10 = .ok (.ishl, 1) := by decide +kernel
theorem dX6_isSet_11 : decode cX6_isSet 11 = .ok (.iconst 1, 1) := by decide +kernel
theorem dX6_isSet_12 : decode cX6_isSet 12 = .ok (.isub, 1) := by decide +kernel
theorem dX6_isSet_13 : decode cX6_isSet 13 = .ok (.i2l, 1) := by decide +kernel
theorem dX6_isSet_14 : decode cX6_isSet 14 = .ok (.invokestatic 75, 3) := by decide +kernel
theorem dX6_isSet_17 : decode cX6_isSet 17 = .ok (.ireturn, 1) := by decide +kernel
set_option maxRecDepth 20000 in
theorem ggX6_isInClass_X6_descents : GoodIn wsX6_isInClass wsX6_descents := goodIn_r _ [5, 6, 7, 8, 4, 9, 10, 11, 12, 13, 14, 15, 16, 17, 18, 19, 20, 21, 22, 23, 24, 25, 26, 27, 28, 29, 30, 31, 32, 33, 34, 35, 36, 37, 38, 39, 40, 41, 42, 43, 44, 45, 46, 47, 48, 49, 50, 51, 52, 53] (by decide +kernel) (by decide +kernel)
set_option maxRecDepth 20000 in
theorem gX6_isInClass_X6_descents : GoodIn wsX6_isInClass (wsV RX6 86 RX6 yX6_descents wsX6_descents) := goodIn_app (goodIn_of _ (by decide +kernel)) ggX6_isInClass_X6_descents
theorem dX6_isInClass_0 : decode cX6_isInClass 0 = .ok (.aload_n 0, 1) := by decide +kernel
theorem dX6_isInClass_1 : decode cX6_isInClass 1 = .ok (.iload_n 1, 1) := by decide +kernel
theorem dX6_isInClass_2 : decode cX6_isInClass 2 = .ok (.invokevirtual 86, 3) := by decide +kernel
theorem dX6_isInClass_5 : decode cX6_isInClass 5 = .ok (.istore 4, 2) := by decide +kernel
theorem dX6_isInClass_7 : decode cX6_isInClass 7 = .ok (.iload_n 3, 1) := by decide +kernel
theorem dX6_isInClass_8 : decode cX6_isInClass 8 = .ok (.ifCond .ne 17, 3) := by decide +kernel
theorem dX6_isInClass_11 : decode cX6_isInClass 11 = .ok (.iload 4, 2) := by decide +kernel
theorem dX6_isInClass_13 : decode cX6_isInClass 13 = .ok (.iload_n 2, 1) := by decide +kernel
theorem dX6_isInClass_14 : decode cX6_isInClass 14 = .ok (.if_icmp .ne 7, 3) := by decide +kernel
theorem dX6_isInClass_17 : decode cX6_isInClass 17 = .ok (.iconst 1, 1) := by decide +kernel
theorem dX6_isInClass_18 : decode cX6_isInClass 18 = .ok (.goto 21, 3) := by decide +kernel
theorem dX6_isInClass_21 : decode cX6_isInClass 21 = .ok (.iconst 0, 1) := by decide +kernel
theorem dX6_isInClass_22 : decode cX6_isInClass 22 = .ok (.goto 17, 3) := by decide +kernel
theorem dX6_isInClass_25 : decode cX6_isInClass 25 = .ok (.iload 4, 2) := by decide +kernel
theorem dX6_isInClass_27 : decode cX6_isInClass 27 = .ok (.iload_n 2, 1) := by decide +kernel
theorem dX6_isInClass_28 : decode cX6_isInClass 28 = .ok (.iconst (-1), 1) := by decide +kernel
theorem dX6_isInClass_29 : decode cX6_isInClass 29 = .ok (.ixor, 1) := by decide +kernel
theorem dX6_isInClass_30 : decode cX6_isInClass 30 = .ok (.iand, 1) := by decide +kernel
theorem dX6_isInClass_31 : decode cX6_isInClass 31 = .ok (.ifCond .ne 7, 3) := by decide +kernel
theorem dX6_isInClass_34 : decode cX6_isInClass 34 = .ok (.iconst 1, 1) := by decide +kernel
theorem dX6_isInClass_35 : decode cX6_isInClass 35 = .ok (.goto 4, 3) := by decide +kernel
theorem dX6_isInClass_38 : decode cX6_isInClass 38 = .ok (.iconst 0, 1) := by decide +kernel
theorem dX6_isInClass_39 : decode cX6_isInClass 39 = .ok (.ireturn, 1) := by decide +kernel
set_option maxRecDepth 20000 in
theorem ggX6_addClass_X6_isSum : GoodIn wsX6_addClass wsX6_isSum := goodIn_r _ [8, 9, 10, 11, 7, 12] (by decide +kernel) (by decide +kernel)
set_option maxRecDepth 20000 in
theorem gX6_addClass_X6_isSum : GoodIn wsX6_addClass (va_wsS RX6 131 yX6_isSum wsX6_isSum) := goodIn_app (goodIn_of _ (by decide +kernel)) ggX6_addClass_X6_isSum
set_option maxRecDepth 20000 in
theorem ggX6_addClass_X6_isSet : GoodIn wsX6_addClass wsX6_isSet := goodIn_r _ [16, 17, 18, 19, 7, 20, 21, 10, 11, 12, 73, 74, 75, 76, 77, 78, 79, 80, 81, 82, 83, 84, 85, 86, 87, 88, 89, 90, 91, 92, 93] (by decide +kernel) (by decide +kernel)
set_option maxRecDepth 20000 in
theorem gX6_addClass_X6_isSet : GoodIn wsX6_addClass (wsV RX6 145 RX6 yX6_isSet wsX6_isSet) := goodIn_app (goodIn_of _ (by decide +kernel)) ggX6_addClass_X6_isSet
set_option maxRecDepth 20000 in
theorem ggX6_addClass_X6_in : GoodIn wsX6_addClass wsX6_in := goodIn_r _ [12] (by decide +kernel) (by decide +kernel)
set_option maxRecDepth 20000 in
theorem gX6_addClass_X6_in : GoodIn wsX6_addClass (va_wsS RX6 75 yX6_in wsX6_in) := goodIn_app (goodIn_of _ (by decide +kernel)) ggX6_addClass_X6_in
set_option maxRecDepth 20000 in
theorem ggX6_addClass_X6_begins : GoodIn wsX6_addClass wsX6_begins := goodIn_r _ [25, 4, 26, 27, 28, 7, 29, 21, 73, 74, 75, 76, 77, 78, 79, 80, 81, 82, 83, 84, 85, 86, 87, 88, 89, 90, 91, 92, 93] (by decide +kernel) (by decide +kernel)
set_option maxRecDepth 20000 in
theorem gX6_addClass_X6_begins : GoodIn wsX6_addClass (wsV RX6 138 RX6 yX6_begins wsX6_begins) := goodIn_app (goodIn_of _ (by decide +kernel)) ggX6_addClass_X6_begins
set_option maxRecDepth 20000 in
theorem ggX6_addClass_X6_orders : GoodIn wsX6_addClass wsX6_orders := goodIn_r _ [33, 17, 18, 19, 7, 20, 21, 34, 35, 36, 73, 74, 75, 76, 77, 78, 79, 80, 81, 82, 83, 84, 85, 86, 87, 88, 89, 90, 91, 92, 93] (by decide +kernel) (by decide +kernel)
set_option maxRecDepth 20000 in
theorem gX6_addClass_X6_orders : GoodIn wsX6_addClass (wsV RX6 65 RX6 yX6_orders wsX6_orders) := goodIn_app (goodIn_of _ (by decide +kernel)) ggX6_addClass_X6_orders
set_option maxRecDepth 20000 in
theorem ggX6_addClass_X6_isInClass : GoodIn wsX6_addClass wsX6_isInClass := goodIn_r _ [40, 41, 42, 43, 7, 44, 17, 18, 19, 20, 21, 45, 46, 47, 48, 49, 50, 51, 52, 53, 54, 55, 30, 31, 32, 33, 34, 35, 36, 56, 57, 58, 59, 73, 74, 75, 76, 77, 78, 79, 80, 81, 82, 83, 84, 85, 86, 87, 88, 89, 90, 91, 92, 93] (by decide +kernel) (by decide +kernel)
set_option maxRecDepth 20000 in
theorem gX6_addClass_X6_isInClass : GoodIn wsX6_addClass (wsV RX6 148 RX6 yX6_isInClass wsX6_isInClass) := goodIn_app (goodIn_of _ (by decide +kernel)) ggX6_addClass_X6_isInClass
set_option maxRecDepth 20000 in
theorem ggX6_addClass_X6_becomes : GoodIn wsX6_addClass wsX6_becomes := goodIn_r _ [63, 4, 64, 65, 66, 21, 10, 11, 7, 12, 67, 68, 69, 70, 71, 72, 73, 74, 75, 76, 77, 78, 79, 80, 81, 82, 83, 84, 85, 86, 87, 88, 89, 90, 91, 92, 93] (by decide +kernel) (by decide +kernel)
set_option maxRecDepth 20000 in
theorem gX6_addClass_X6_becomes : GoodIn wsX6_addClass (wsV RX6 142 RX6 yX6_becomes wsX6_becomes) := goodIn_app (goodIn_of _ (by decide +kernel)) ggX6_addClass_X6_becomes
theorem dX6_addClass_0 : decode cX6_addClass 0 = .ok (.iload_n 1, 1) := by decide +kernel
theorem dX6_addClass_1 : decode cX6_addClass 1 = .ok (.invokestatic 131, 3) := by decide +kernel
theorem dX6_addClass_4 : decode cX6_addClass 4 = .ok (.ifCond .eq 36, 3) := by decide +kernel
theorem dX6_addClass_7 : decode cX6_addClass 7 = .ok (.aload_n 0, 1) := by decide +kernel
theorem dX6_addClass_8 : decode cX6_addClass 8 = .ok (.iload_n 2, 1) := by decide +kernel
theorem dX6_addClass_9 : decode cX6_addClass 9 = .ok (.invokevirtual 145, 3) := by decide +kernel
theorem dX6_addClass_12 : decode cX6_addClass 12 = .ok (.ifCond .eq 28, 3) := by decide +kernel
theorem dX6_addClass_15 : decode cX6_addClass 15 = .ok (.iload_n 3, 1) := by decide +kernel
theorem dX6_addClass_16 : decode cX6_addClass 16 = .ok (.i2l, 1) := by decide +kernel
theorem dX6_addClass_17 : decode cX6_addClass 17 = .ok (.lconst 0, 1) := by decide +kernel
theorem dX6_addClass_18 : decode cX6_addClass 18 = .ok (.lconst 1, 1) := by decide +kernel
theorem dX6_addClass_19 : decode cX6_addClass 19 = .ok (.invokestatic 75, 3) := by decide +kernel
theorem dX6_addClass_22 : decode cX6_addClass 22 = .ok (.ifCond .eq 18, 3) := by decide +kernel
theorem dX6_addClass_25 : decode cX6_addClass 25 = .ok (.iload 4, 2) := by decide +kernel
theorem dX6_addClass_27 : decode cX6_addClass 27 = .ok (.i2l, 1) := by decide +kernel
theorem dX6_addClass_28 : decode cX6_addClass 28 = .ok (.ldc2_w 134, 3) := by decide +kernel
theorem dX6_addClass_31 : decode cX6_addClass 31 = .ok (.ldc2_w 136, 3) := by decide +kernel
theorem dX6_addClass_34 : decode cX6_addClass 34 = .ok (.invokestatic 75, 3) := by decide +kernel
theorem dX6_addClass_37 : decode cX6_addClass 37 = .ok (.ifCond .ne 6, 3) := by decide +kernel
theorem dX6_addClass_40 : decode cX6_addClass 40 = .ok (.ldc 97, 2) := by decide +kernel
theorem dX6_addClass_42 : decode cX6_addClass 42 = .ok (.ireturn, 1) := by decide +kernel
theorem dX6_addClass_43 : decode cX6_addClass 43 = .ok (.aload_n 0, 1) := by decide +kernel
theorem dX6_addClass_44 : decode cX6_addClass 44 = .ok (.iload_n 1, 1) := by decide +kernel
theorem dX6_addClass_45 : decode cX6_addClass 45 = .ok (.invokevirtual 138, 3) := by decide +kernel
theorem dX6_addClass_48 : decode cX6_addClass 48 = .ok (.iconst 0, 1) := by decide +kernel
theorem dX6_addClass_49 : decode cX6_addClass 49 = .ok (.istore 5, 2) := by decide +kernel
theorem dX6_addClass_51 : decode cX6_addClass 51 = .ok (.iconst 0, 1) := by decide +kernel
theorem dX6_addClass_52 : decode cX6_addClass 52 = .ok (.istore 6, 2) := by decide +kernel
theorem dX6_addClass_54 : decode cX6_addClass 54 = .ok (.iload 6, 2) := by decide +kernel
theorem dX6_addClass_56 : decode cX6_addClass 56 = .ok (.aload_n 0, 1) := by decide +kernel
theorem dX6_addClass_57 : decode cX6_addClass 57 = .ok (.invokevirtual 65, 3) := by decide +kernel
theorem dX6_addClass_60 : decode cX6_addClass 60 = .ok (.if_icmp .ge 36, 3) := by decide +kernel
theorem dX6_addClass_63 : decode cX6_addClass 63 = .ok (.aload_n 0, 1) := by decide +kernel
theorem dX6_addClass_64 : decode cX6_addClass 64 = .ok (.iload 6, 2) := by decide +kernel
theorem dX6_addClass_66 : decode cX6_addClass 66 = .ok (.iload_n 2, 1) := by decide +kernel
theorem dX6_addClass_67 : decode cX6_addClass 67 = .ok (.iload_n 3, 1) := by decide +kernel
theorem dX6_addClass_68 : decode cX6_addClass 68 = .ok (.invokevirtual 148, 3) := by decide +kernel
theorem dX6_addClass_71 : decode cX6_addClass 71 = .ok (.ifCond .eq 19, 3) := by decide +kernel
theorem dX6_addClass_74 : decode cX6_addClass 74 = .ok (.aload_n 0, 1) := by decide +kernel
theorem dX6_addClass_75 : decode cX6_addClass 75 = .ok (.getfield 22, 3) := by decide +kernel
theorem dX6_addClass_78 : decode cX6_addClass 78 = .ok (.iload 6, 2) := by decide +kernel
theorem dX6_addClass_80 : decode cX6_addClass 80 = .ok (.dup2, 1) := by decide +kernel
theorem dX6_addClass_81 : decode cX6_addClass 81 = .ok (.laload, 1) := by decide +kernel
theorem dX6_addClass_82 : decode cX6_addClass 82 = .ok (.iload 4, 2) := by decide +kernel
theorem dX6_addClass_84 : decode cX6_addClass 84 = .ok (.i2l, 1) := by decide +kernel
theorem dX6_addClass_85 : decode cX6_addClass 85 = .ok (.ladd, 1) := by decide +kernel
theorem dX6_addClass_86 : decode cX6_addClass 86 = .ok (.lastore, 1) := by decide +kernel
theorem dX6_addClass_87 : decode cX6_addClass 87 = .ok (.iinc 5 1, 3) := by decide +kernel
theorem dX6_addClass_90 : decode cX6_addClass 90 = .ok (.iinc 6 1, 3) := by decide +kernel
theorem dX6_addClass_93 : decode cX6_addClass 93 = .ok (.goto (-39), 3) := by decide +kernel
theorem dX6_addClass_96 : decode cX6_addClass 96 = .ok (.aload_n 0, 1) := by decide +kernel
theorem dX6_addClass_97 : decode cX6_addClass 97 = .ok (.iload_n 1, 1) := by decide +kernel
theorem dX6_addClass_98 : decode cX6_addClass 98 = .ok (.iload 5, 2) := by decide +kernel
theorem dX6_addClass_100 : decode cX6_addClass 100 = .ok (.invokevirtual 142, 3) := by decide +kernel
theorem dX6_addClass_103 : decode cX6_addClass 103 = .ok (.ireturn, 1) := by decide +kernel
set_option maxRecDepth 20000 in
theorem ggX6_clear_X6_isSum : GoodIn wsX6_clear wsX6_isSum := goodIn_r _ [5, 6, 7, 8, 4, 9] (by decide +kernel) (by decide +kernel)
set_option maxRecDepth 20000 in
theorem gX6_clear_X6_isSum : GoodIn wsX6_clear (va_wsS RX6 131 yX6_isSum wsX6_isSum) := goodIn_app (goodIn_of _ (by decide +kernel)) ggX6_clear_X6_isSum
set_option maxRecDepth 20000 in
theorem ggX6_clear_X6_others : GoodIn wsX6_clear wsX6_others := goodIn_r _ [13, 14, 15, 16, 4, 17, 18, 37, 38, 39, 40, 41, 42, 43, 44, 45, 46, 47, 48, 49, 50, 51, 52, 53, 54, 55, 56, 57] (by decide +kernel) (by decide +kernel)
set_option maxRecDepth 20000 in
theorem gX6_clear_X6_others : GoodIn wsX6_clear (wsV RX6 152 RX6 yX6_others wsX6_others) := goodIn_app (goodIn_of _ (by decide +kernel)) ggX6_clear_X6_others
set_option maxRecDepth 20000 in
theorem ggX6_clear_X6_empties : GoodIn wsX6_clear wsX6_empties := goodIn_r _ [22, 23, 37, 38, 39, 40, 41, 42, 43, 44, 45, 46, 47, 48, 49, 50, 51, 52, 53, 54, 55, 56, 57] (by decide +kernel) (by decide +kernel)
set_option maxRecDepth 20000 in
theorem gX6_clear_X6_empties : GoodIn wsX6_clear (wsV RX6 155 RX6 yX6_empties wsX6_empties) := goodIn_app (goodIn_of _ (by decide +kernel)) ggX6_clear_X6_empties
set_option maxRecDepth 20000 in
theorem ggX6_clear_X6_becomes : GoodIn wsX6_clear wsX6_becomes := goodIn_r _ [27, 23, 28, 29, 30, 18, 7, 8, 4, 9, 31, 32, 33, 34, 35, 36, 37, 38, 39, 40, 41, 42, 43, 44, 45, 46, 47, 48, 49, 50, 51, 52, 53, 54, 55, 56, 57] (by decide +kernel) (by decide +kernel)
set_option maxRecDepth 20000 in
theorem gX6_clear_X6_becomes : GoodIn wsX6_clear (wsV RX6 142 RX6 yX6_becomes wsX6_becomes) := goodIn_app (goodIn_of _ (by decide +kernel)) ggX6_clear_X6_becomes
theorem dX6_clear_0 : decode cX6_clear 0 = .ok (.iload_n 1, 1) := by decide +kernel
theorem dX6_clear_1 : decode cX6_clear 1 = .ok (.invokestatic 131, 3) := by decide +kernel
theorem dX6_clear_4 : decode cX6_clear 4 = .ok (.ifCond .ne 6, 3) := by decide +kernel
theorem dX6_clear_7 : decode cX6_clear 7 = .ok (.ldc 97, 2) := by decide +kernel
theorem dX6_clear_9 : decode cX6_clear 9 = .ok (.ireturn, 1) := by decide +kernel
theorem dX6_clear_10 : decode cX6_clear 10 = .ok (.aload_n 0, 1) := by decide +kernel
theorem dX6_clear_11 : decode cX6_clear 11 = .ok (.iload_n 1, 1) := by decide +kernel
theorem dX6_clear_12 : decode cX6_clear 12 = .ok (.invokevirtual 152, 3) := by decide +kernel
theorem dX6_clear_15 : decode cX6_clear 15 = .ok (.istore_n 2, 1) := by decide +kernel
theorem dX6_clear_16 : decode cX6_clear 16 = .ok (.aload_n 0, 1) := by decide +kernel
theorem dX6_clear_17 : decode cX6_clear 17 = .ok (.invokevirtual 155, 3) := by decide +kernel
theorem dX6_clear_20 : decode cX6_clear 20 = .ok (.aload_n 0, 1) := by decide +kernel
theorem dX6_clear_21 : decode cX6_clear 21 = .ok (.iload_n 1, 1) := by decide +kernel
theorem dX6_clear_22 : decode cX6_clear 22 = .ok (.iload_n 2, 1) := by decide +kernel
theorem dX6_clear_23 : decode cX6_clear 23 = .ok (.invokevirtual 142, 3) := by decide +kernel
theorem dX6_clear_26 : decode cX6_clear 26 = .ok (.ireturn, 1) := by decide +kernel
set_option maxRecDepth 20000 in
theorem ggX6_multiplies_X6_empties : GoodIn wsX6_multiplies wsX6_empties := goodIn_r _ [6, 1, 46, 47, 48, 49, 50, 51, 52, 53, 54, 55, 56, 57, 58, 59, 60, 61, 62, 63, 64, 65, 66] (by decide +kernel) (by decide +kernel)
set_option maxRecDepth 20000 in
theorem gX6_multiplies_X6_empties : GoodIn wsX6_multiplies (wsV RX6 155 RX6 yX6_empties wsX6_empties) := goodIn_app (goodIn_of _ (by decide +kernel)) ggX6_multiplies_X6_empties
set_option maxRecDepth 20000 in
theorem ggX6_multiplies_X6_orders : GoodIn wsX6_multiplies wsX6_orders := goodIn_r _ [10, 11, 12, 13, 5, 14, 15, 16, 17, 18, 46, 47, 48, 49, 50, 51, 52, 53, 54, 55, 56, 57, 58, 59, 60, 61, 62, 63, 64, 65, 66] (by decide +kernel) (by decide +kernel)
set_option maxRecDepth 20000 in
theorem gX6_multiplies_X6_orders : GoodIn wsX6_multiplies (wsV RX6 65 RX6 yX6_orders wsX6_orders) := goodIn_app (goodIn_of _ (by decide +kernel)) ggX6_multiplies_X6_orders
set_option maxRecDepth 20000 in
theorem ggX6_multiplies_X6_get : GoodIn wsX6_multiplies wsX6_get := goodIn_r _ [22, 15, 46, 47, 48, 49, 50, 51, 52, 53, 54, 55, 56, 57, 58, 59, 60, 61, 62, 63, 64, 65, 66] (by decide +kernel) (by decide +kernel)
set_option maxRecDepth 20000 in
theorem gX6_multiplies_X6_get : GoodIn wsX6_multiplies (wsV RX6 118 RX6 yX6_get wsX6_get) := goodIn_app (goodIn_of _ (by decide +kernel)) ggX6_multiplies_X6_get
set_option maxRecDepth 20000 in
theorem ggX6_multiplies_X6_productOf : GoodIn wsX6_multiplies wsX6_productOf := goodIn_r _ [26, 27, 11, 12, 13, 5, 14, 15, 28, 29, 30, 31, 32, 33, 34, 35, 36, 37, 7, 8, 9, 10, 16, 17, 18, 38, 39, 40, 41, 42, 43, 44, 45, 46, 47, 48, 49, 50, 51, 52, 53, 54, 55, 56, 57, 58, 59, 60, 61, 62, 63, 64, 65, 66] (by decide +kernel) (by decide +kernel)
set_option maxRecDepth 20000 in
theorem gX6_multiplies_X6_productOf : GoodIn wsX6_multiplies (wsV RX6 113 RX6 yX6_productOf wsX6_productOf) := goodIn_app (goodIn_of _ (by decide +kernel)) ggX6_multiplies_X6_productOf
theorem dX6_multiplies_0 : decode cX6_multiplies 0 = .ok (.aload_n 0, 1) := by decide +kernel
theorem dX6_multiplies_1 : decode cX6_multiplies 1 = .ok (.invokevirtual 155, 3) := by decide +kernel
theorem dX6_multiplies_4 : decode cX6_multiplies 4 = .ok (.iconst 0, 1) := by decide +kernel
theorem dX6_multiplies_5 : decode cX6_multiplies 5 = .ok (.istore_n 3, 1) := by decide +kernel
theorem dX6_multiplies_6 : decode cX6_multiplies 6 = .ok (.iload_n 3, 1) := by decide +kernel
theorem dX6_multiplies_7 : decode cX6_multiplies 7 = .ok (.aload_n 0, 1) := by decide +kernel
theorem dX6_multiplies_8 : decode cX6_multiplies 8 = .ok (.invokevirtual 65, 3) := by decide +kernel
theorem dX6_multiplies_11 : decode cX6_multiplies 11 = .ok (.if_icmp .ge 77, 3) := by decide +kernel
theorem dX6_multiplies_14 : decode cX6_multiplies 14 = .ok (.iconst 0, 1) := by decide +kernel
theorem dX6_multiplies_15 : decode cX6_multiplies 15 = .ok (.istore 4, 2) := by decide +kernel
theorem dX6_multiplies_17 : decode cX6_multiplies 17 = .ok (.iload 4, 2) := by decide +kernel
theorem dX6_multiplies_19 : decode cX6_multiplies 19 = .ok (.aload_n 0, 1) := by decide +kernel
theorem dX6_multiplies_20 : decode cX6_multiplies 20 = .ok (.invokevirtual 65, 3) := by decide +kernel
theorem dX6_multiplies_23 : decode cX6_multiplies 23 = .ok (.if_icmp .ge 59, 3) := by decide +kernel
theorem dX6_multiplies_26 : decode cX6_multiplies 26 = .ok (.aload_n 0, 1) := by decide +kernel
theorem dX6_multiplies_27 : decode cX6_multiplies 27 = .ok (.iload_n 1, 1) := by decide +kernel
theorem dX6_multiplies_28 : decode cX6_multiplies 28 = .ok (.iload_n 3, 1) := by decide +kernel
theorem dX6_multiplies_29 : decode cX6_multiplies 29 = .ok (.invokevirtual 118, 3) := by decide +kernel
theorem dX6_multiplies_32 : decode cX6_multiplies 32 = .ok (.ifCond .eq 50, 3) := by decide +kernel
theorem dX6_multiplies_35 : decode cX6_multiplies 35 = .ok (.aload_n 0, 1) := by decide +kernel
theorem dX6_multiplies_36 : decode cX6_multiplies 36 = .ok (.iload_n 2, 1) := by decide +kernel
theorem dX6_multiplies_37 : decode cX6_multiplies 37 = .ok (.iload 4, 2) := by decide +kernel
theorem dX6_multiplies_39 : decode cX6_multiplies 39 = .ok (.invokevirtual 118, 3) := by decide +kernel
theorem dX6_multiplies_42 : decode cX6_multiplies 42 = .ok (.ifCond .eq 34, 3) := by decide +kernel
theorem dX6_multiplies_45 : decode cX6_multiplies 45 = .ok (.aload_n 0, 1) := by decide +kernel
theorem dX6_multiplies_46 : decode cX6_multiplies 46 = .ok (.getfield 22, 3) := by decide +kernel
theorem dX6_multiplies_49 : decode cX6_multiplies 49 = .ok (.aload_n 0, 1) := by decide +kernel
theorem dX6_multiplies_50 : decode cX6_multiplies 50 = .ok (.iload_n 3, 1) := by decide +kernel
theorem dX6_multiplies_51 : decode cX6_multiplies 51 = .ok (.iload 4, 2) := by decide +kernel
theorem dX6_multiplies_53 : decode cX6_multiplies 53 = .ok (.invokevirtual 113, 3) := by decide +kernel
theorem dX6_multiplies_56 : decode cX6_multiplies 56 = .ok (.dup2, 1) := by decide +kernel
theorem dX6_multiplies_57 : decode cX6_multiplies 57 = .ok (.laload, 1) := by decide +kernel
theorem dX6_multiplies_58 : decode cX6_multiplies 58 = .ok (.aload_n 0, 1) := by decide +kernel
theorem dX6_multiplies_59 : decode cX6_multiplies 59 = .ok (.iload_n 1, 1) := by decide +kernel
theorem dX6_multiplies_60 : decode cX6_multiplies 60 = .ok (.iload_n 3, 1) := by decide +kernel
