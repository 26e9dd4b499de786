theorem dX8_join_21 : decode cX8_join 21 = .ok (.return_, 1) := by decide +kernel
theorem dX8_join_22 : decode cX8_join 22 = .ok (.aload_n 0, 1) := by decide +kernel
theorem dX8_join_23 : decode cX8_join 23 = .ok (.getfield 15, 3) := by decide +kernel
theorem dX8_join_26 : decode cX8_join 26 = .ok (.iload_n 1, 1) := by decide +kernel
theorem dX8_join_27 : decode cX8_join 27 = .ok (.iaload, 1) := by decide +kernel
theorem dX8_join_28 : decode cX8_join 28 = .ok (.iconst 1, 1) := by decide +kernel
theorem dX8_join_29 : decode cX8_join 29 = .ok (.iadd, 1) := by decide +kernel
theorem dX8_join_30 : decode cX8_join 30 = .ok (.istore 5, 2) := by decide +kernel
theorem dX8_join_32 : decode cX8_join 32 = .ok (.iload 5, 2) := by decide +kernel
theorem dX8_join_34 : decode cX8_join 34 = .ok (.iconst 1, 1) := by decide +kernel
theorem dX8_join_35 : decode cX8_join 35 = .ok (.if_icmp .ne 7, 3) := by decide +kernel
theorem dX8_join_38 : decode cX8_join 38 = .ok (.iload_n 3, 1) := by decide +kernel
theorem dX8_join_39 : decode cX8_join 39 = .ok (.goto 9, 3) := by decide +kernel
theorem dX8_join_42 : decode cX8_join 42 = .ok (.aload_n 0, 1) := by decide +kernel
theorem dX8_join_43 : decode cX8_join 43 = .ok (.getfield 22, 3) := by decide +kernel
theorem dX8_join_46 : decode cX8_join 46 = .ok (.iload_n 1, 1) := by decide +kernel
theorem dX8_join_47 : decode cX8_join 47 = .ok (.iaload, 1) := by decide +kernel
theorem dX8_join_48 : decode cX8_join 48 = .ok (.istore 6, 2) := by decide +kernel
theorem dX8_join_50 : decode cX8_join 50 = .ok (.aload_n 0, 1) := by decide +kernel
theorem dX8_join_51 : decode cX8_join 51 = .ok (.getfield 15, 3) := by decide +kernel
theorem dX8_join_54 : decode cX8_join 54 = .ok (.iload 4, 2) := by decide +kernel
theorem dX8_join_56 : decode cX8_join 56 = .ok (.iaload, 1) := by decide +kernel
theorem dX8_join_57 : decode cX8_join 57 = .ok (.iconst (-1), 1) := by decide +kernel
theorem dX8_join_58 : decode cX8_join 58 = .ok (.if_icmp .ne 14, 3) := by decide +kernel
theorem dX8_join_61 : decode cX8_join 61 = .ok (.aload_n 0, 1) := by decide +kernel
theorem dX8_join_62 : decode cX8_join 62 = .ok (.iload_n 2, 1) := by decide +kernel
theorem dX8_join_63 : decode cX8_join 63 = .ok (.iload 4, 2) := by decide +kernel
theorem dX8_join_65 : decode cX8_join 65 = .ok (.iload 5, 2) := by decide +kernel
theorem dX8_join_67 : decode cX8_join 67 = .ok (.iload 6, 2) := by decide +kernel
theorem dX8_join_69 : decode cX8_join 69 = .ok (.invokevirtual 67, 3) := by decide +kernel
theorem dX8_join_72 : decode cX8_join 72 = .ok (.aload_n 0, 1) := by decide +kernel
theorem dX8_join_73 : decode cX8_join 73 = .ok (.getfield 15, 3) := by decide +kernel
theorem dX8_join_76 : decode cX8_join 76 = .ok (.iload 4, 2) := by decide +kernel
theorem dX8_join_78 : decode cX8_join 78 = .ok (.iaload, 1) := by decide +kernel
theorem dX8_join_79 : decode cX8_join 79 = .ok (.iload 5, 2) := by decide +kernel
theorem dX8_join_81 : decode cX8_join 81 = .ok (.if_icmp .ne 38, 3) := by decide +kernel
theorem dX8_join_84 : decode cX8_join 84 = .ok (.aload_n 0, 1) := by decide +kernel
theorem dX8_join_85 : decode cX8_join 85 = .ok (.getfield 18, 3) := by decide +kernel
theorem dX8_join_88 : decode cX8_join 88 = .ok (.iload 4, 2) := by decide +kernel
theorem dX8_join_90 : decode cX8_join 90 = .ok (.dup2, 1) := by decide +kernel
theorem dX8_join_91 : decode cX8_join 91 = .ok (.laload, 1) := by decide +kernel
theorem dX8_join_92 : decode cX8_join 92 = .ok (.aload_n 0, 1) := by decide +kernel
theorem dX8_join_93 : decode cX8_join 93 = .ok (.getfield 18, 3) := by decide +kernel
theorem dX8_join_96 : decode cX8_join 96 = .ok (.iload_n 1, 1) := by decide +kernel
theorem dX8_join_97 : decode cX8_join 97 = .ok (.laload, 1) := by decide +kernel
theorem dX8_join_98 : decode cX8_join 98 = .ok (.ladd, 1) := by decide +kernel
theorem dX8_join_99 : decode cX8_join 99 = .ok (.lastore, 1) := by decide +kernel
theorem dX8_join_100 : decode cX8_join 100 = .ok (.aload_n 0, 1) := by decide +kernel
theorem dX8_join_101 : decode cX8_join 101 = .ok (.getfield 22, 3) := by decide +kernel
theorem dX8_join_104 : decode cX8_join 104 = .ok (.iload 4, 2) := by decide +kernel
theorem dX8_join_106 : decode cX8_join 106 = .ok (.aload_n 0, 1) := by decide +kernel
theorem dX8_join_107 : decode cX8_join 107 = .ok (.getfield 22, 3) := by decide +kernel
theorem dX8_join_110 : decode cX8_join 110 = .ok (.iload 4, 2) := by decide +kernel
theorem dX8_join_112 : decode cX8_join 112 = .ok (.iaload, 1) := by decide +kernel
theorem dX8_join_113 : decode cX8_join 113 = .ok (.iload 6, 2) := by decide +kernel
theorem dX8_join_115 : decode cX8_join 115 = .ok (.invokestatic 106, 3) := by decide +kernel
theorem dX8_join_118 : decode cX8_join 118 = .ok (.iastore, 1) := by decide +kernel
theorem dX8_join_119 : decode cX8_join 119 = .ok (.return_, 1) := by decide +kernel
theorem dX8_meet_0 : decode cX8_meet 0 = .ok (.aload_n 0, 1) := by decide +kernel
theorem dX8_meet_1 : decode cX8_meet 1 = .ok (.getfield 54, 3) := by decide +kernel
theorem dX8_meet_4 : decode cX8_meet 4 = .ok (.sipush 7560, 3) := by decide +kernel
theorem dX8_meet_7 : decode cX8_meet 7 = .ok (.if_icmp .lt 4, 3) := by decide +kernel
theorem dX8_meet_10 : decode cX8_meet 10 = .ok (.return_, 1) := by decide +kernel
theorem dX8_meet_11 : decode cX8_meet 11 = .ok (.aload_n 0, 1) := by decide +kernel
theorem dX8_meet_12 : decode cX8_meet 12 = .ok (.getfield 15, 3) := by decide +kernel
theorem dX8_meet_15 : decode cX8_meet 15 = .ok (.iload_n 2, 1) := by decide +kernel
theorem dX8_meet_16 : decode cX8_meet 16 = .ok (.iload_n 3, 1) := by decide +kernel
theorem dX8_meet_17 : decode cX8_meet 17 = .ok (.iastore, 1) := by decide +kernel
theorem dX8_meet_18 : decode cX8_meet 18 = .ok (.aload_n 0, 1) := by decide +kernel
theorem dX8_meet_19 : decode cX8_meet 19 = .ok (.getfield 18, 3) := by decide +kernel
theorem dX8_meet_22 : decode cX8_meet 22 = .ok (.iload_n 2, 1) := by decide +kernel
theorem dX8_meet_23 : decode cX8_meet 23 = .ok (.lconst 0, 1) := by decide +kernel
theorem dX8_meet_24 : decode cX8_meet 24 = .ok (.lastore, 1) := by decide +kernel
theorem dX8_meet_25 : decode cX8_meet 25 = .ok (.aload_n 0, 1) := by decide +kernel
theorem dX8_meet_26 : decode cX8_meet 26 = .ok (.getfield 22, 3) := by decide +kernel
theorem dX8_meet_29 : decode cX8_meet 29 = .ok (.iload_n 2, 1) := by decide +kernel
theorem dX8_meet_30 : decode cX8_meet 30 = .ok (.iload 4, 2) := by decide +kernel
theorem dX8_meet_32 : decode cX8_meet 32 = .ok (.iastore, 1) := by decide +kernel
theorem dX8_meet_33 : decode cX8_meet 33 = .ok (.aload_n 0, 1) := by decide +kernel
theorem dX8_meet_34 : decode cX8_meet 34 = .ok (.getfield 9, 3) := by decide +kernel
theorem dX8_meet_37 : decode cX8_meet 37 = .ok (.aload_n 0, 1) := by decide +kernel
theorem dX8_meet_38 : decode cX8_meet 38 = .ok (.getfield 54, 3) := by decide +kernel
theorem dX8_meet_41 : decode cX8_meet 41 = .ok (.iload_n 1, 1) := by decide +kernel
theorem dX8_meet_42 : decode cX8_meet 42 = .ok (.iastore, 1) := by decide +kernel
theorem dX8_meet_43 : decode cX8_meet 43 = .ok (.aload_n 0, 1) := by decide +kernel
theorem dX8_meet_44 : decode cX8_meet 44 = .ok (.dup, 1) := by decide +kernel
theorem dX8_meet_45 : decode cX8_meet 45 = .ok (.getfield 54, 3) := by decide +kernel
theorem dX8_meet_48 : decode cX8_meet 48 = .ok (.iconst 1, 1) := by decide +kernel
theorem dX8_meet_49 : decode cX8_meet 49 = .ok (.iadd, 1) := by decide +kernel
theorem dX8_meet_50 : decode cX8_meet 50 = .ok (.putfield 54, 3) := by decide +kernel
theorem dX8_meet_53 : decode cX8_meet 53 = .ok (.aload_n 0, 1) := by decide +kernel
theorem dX8_meet_54 : decode cX8_meet 54 = .ok (.iload_n 3, 1) := by decide +kernel
theorem dX8_meet_55 : decode cX8_meet 55 = .ok (.putfield 60, 3) := by decide +kernel
theorem dX8_meet_58 : decode cX8_meet 58 = .ok (.return_, 1) := by decide +kernel
set_option maxRecDepth 20000 in
theorem ggX8_stepsTo_X4_numberOf : GoodIn wsX8_stepsTo wsX4_numberOf := goodIn_r _ [7, 8, 9, 10, 11, 25, 26, 27, 28, 29] (by decide +kernel) (by decide +kernel)
set_option maxRecDepth 20000 in
theorem gX8_stepsTo_X4_numberOf : GoodIn wsX8_stepsTo (wsV RX8 63 RX4 yX4_numberOf wsX4_numberOf) := goodIn_app (goodIn_of _ (by decide +kernel)) ggX8_stepsTo_X4_numberOf
theorem dX8_stepsTo_0 : decode cX8_stepsTo 0 = .ok (.aload_n 0, 1) := by decide +kernel
theorem dX8_stepsTo_1 : decode cX8_stepsTo 1 = .ok (.getfield 33, 3) := by decide +kernel
theorem dX8_stepsTo_4 : decode cX8_stepsTo 4 = .ok (.iload_n 1, 1) := by decide +kernel
theorem dX8_stepsTo_5 : decode cX8_stepsTo 5 = .ok (.invokevirtual 63, 3) := by decide +kernel
theorem dX8_stepsTo_8 : decode cX8_stepsTo 8 = .ok (.istore_n 2, 1) := by decide +kernel
theorem dX8_stepsTo_9 : decode cX8_stepsTo 9 = .ok (.iload_n 2, 1) := by decide +kernel
theorem dX8_stepsTo_10 : decode cX8_stepsTo 10 = .ok (.iconst (-1), 1) := by decide +kernel
theorem dX8_stepsTo_11 : decode cX8_stepsTo 11 = .ok (.if_icmp .ne 7, 3) := by decide +kernel
theorem dX8_stepsTo_14 : decode cX8_stepsTo 14 = .ok (.iconst (-1), 1) := by decide +kernel
theorem dX8_stepsTo_15 : decode cX8_stepsTo 15 = .ok (.goto 9, 3) := by decide +kernel
theorem dX8_stepsTo_18 : decode cX8_stepsTo 18 = .ok (.aload_n 0, 1) := by decide +kernel
theorem dX8_stepsTo_19 : decode cX8_stepsTo 19 = .ok (.getfield 15, 3) := by decide +kernel
theorem dX8_stepsTo_22 : decode cX8_stepsTo 22 = .ok (.iload_n 2, 1) := by decide +kernel
theorem dX8_stepsTo_23 : decode cX8_stepsTo 23 = .ok (.iaload, 1) := by decide +kernel
theorem dX8_stepsTo_24 : decode cX8_stepsTo 24 = .ok (.ireturn, 1) := by decide +kernel
set_option maxRecDepth 20000 in
theorem ggX8_waysTo_X4_numberOf : GoodIn wsX8_waysTo wsX4_numberOf := goodIn_r _ [8, 9, 10, 11, 12, 26, 27, 28, 29, 30] (by decide +kernel) (by decide +kernel)
set_option maxRecDepth 20000 in
theorem gX8_waysTo_X4_numberOf : GoodIn wsX8_waysTo (wsV RX8 63 RX4 yX4_numberOf wsX4_numberOf) := goodIn_app (goodIn_of _ (by decide +kernel)) ggX8_waysTo_X4_numberOf
theorem dX8_waysTo_0 : decode cX8_waysTo 0 = .ok (.aload_n 0, 1) := by decide +kernel
theorem dX8_waysTo_1 : decode cX8_waysTo 1 = .ok (.getfield 33, 3) := by decide +kernel
theorem dX8_waysTo_4 : decode cX8_waysTo 4 = .ok (.iload_n 1, 1) := by decide +kernel
theorem dX8_waysTo_5 : decode cX8_waysTo 5 = .ok (.invokevirtual 63, 3) := by decide +kernel
theorem dX8_waysTo_8 : decode cX8_waysTo 8 = .ok (.istore_n 2, 1) := by decide +kernel
theorem dX8_waysTo_9 : decode cX8_waysTo 9 = .ok (.iload_n 2, 1) := by decide +kernel
theorem dX8_waysTo_10 : decode cX8_waysTo 10 = .ok (.iconst (-1), 1) := by decide +kernel
theorem dX8_waysTo_11 : decode cX8_waysTo 11 = .ok (.if_icmp .eq 13, 3) := by decide +kernel
theorem dX8_waysTo_14 : decode cX8_waysTo 14 = .ok (.aload_n 0, 1) := by decide +kernel
theorem dX8_waysTo_15 : decode cX8_waysTo 15 = .ok (.getfield 15, 3) := by decide +kernel
theorem dX8_waysTo_18 : decode cX8_waysTo 18 = .ok (.iload_n 2, 1) := by decide +kernel
theorem dX8_waysTo_19 : decode cX8_waysTo 19 = .ok (.iaload, 1) := by decide +kernel
theorem dX8_waysTo_20 : decode cX8_waysTo 20 = .ok (.iconst (-1), 1) := by decide +kernel
theorem dX8_waysTo_21 : decode cX8_waysTo 21 = .ok (.if_icmp .ne 7, 3) := by decide +kernel
theorem dX8_waysTo_24 : decode cX8_waysTo 24 = .ok (.lconst 0, 1) := by decide +kernel
theorem dX8_waysTo_25 : decode cX8_waysTo 25 = .ok (.goto 9, 3) := by decide +kernel
theorem dX8_waysTo_28 : decode cX8_waysTo 28 = .ok (.aload_n 0, 1) := by decide +kernel
theorem dX8_waysTo_29 : decode cX8_waysTo 29 = .ok (.getfield 18, 3) := by decide +kernel
theorem dX8_waysTo_32 : decode cX8_waysTo 32 = .ok (.iload_n 2, 1) := by decide +kernel
theorem dX8_waysTo_33 : decode cX8_waysTo 33 = .ok (.laload, 1) := by decide +kernel
theorem dX8_waysTo_34 : decode cX8_waysTo 34 = .ok (.lreturn, 1) := by decide +kernel
set_option maxRecDepth 20000 in
theorem ggX8_firstMoveTo_X4_numberOf : GoodIn wsX8_firstMoveTo wsX4_numberOf := goodIn_r _ [8, 9, 10, 11, 12, 26, 27, 28, 29, 30] (by decide +kernel) (by decide +kernel)
set_option maxRecDepth 20000 in
theorem gX8_firstMoveTo_X4_numberOf : GoodIn wsX8_firstMoveTo (wsV RX8 63 RX4 yX4_numberOf wsX4_numberOf) := goodIn_app (goodIn_of _ (by decide +kernel)) ggX8_firstMoveTo_X4_numberOf
theorem dX8_firstMoveTo_0 : decode cX8_firstMoveTo 0 = .ok (.aload_n 0, 1) := by decide +kernel
theorem dX8_firstMoveTo_1 : decode cX8_firstMoveTo 1 = .ok (.getfield 33, 3) := by decide +kernel
theorem dX8_firstMoveTo_4 : decode cX8_firstMoveTo 4 = .ok (.iload_n 1, 1) := by decide +kernel
theorem dX8_firstMoveTo_5 : decode cX8_firstMoveTo 5 = .ok (.invokevirtual 63, 3) := by decide +kernel
theorem dX8_firstMoveTo_8 : decode cX8_firstMoveTo 8 = .ok (.istore_n 2, 1) := by decide +kernel
theorem dX8_firstMoveTo_9 : decode cX8_firstMoveTo 9 = .ok (.iload_n 2, 1) := by decide +kernel
theorem dX8_firstMoveTo_10 : decode cX8_firstMoveTo 10 = .ok (.iconst (-1), 1) := by decide +kernel
theorem dX8_firstMoveTo_11 : decode cX8_firstMoveTo 11 = .ok (.if_icmp .eq 13, 3) := by decide +kernel
theorem dX8_firstMoveTo_14 : decode cX8_firstMoveTo 14 = .ok (.aload_n 0, 1) := by decide +kernel
theorem dX8_firstMoveTo_15 : decode cX8_firstMoveTo 15 = .ok (.getfield 15, 3) := by decide +kernel
theorem dX8_firstMoveTo_18 : decode cX8_firstMoveTo 18 = .ok (.iload_n 2, 1) := by decide +kernel
theorem dX8_firstMoveTo_19 : decode cX8_firstMoveTo 19 = .ok (.iaload, 1) := by decide +kernel
theorem dX8_firstMoveTo_20 : decode cX8_firstMoveTo 20 = .ok (.iconst (-1), 1) := by decide +kernel
theorem dX8_firstMoveTo_21 : decode cX8_firstMoveTo 21 = .ok (.if_icmp .ne 7, 3) := by decide +kernel
theorem dX8_firstMoveTo_24 : decode cX8_firstMoveTo 24 = .ok (.iconst (-1), 1) := by decide +kernel
theorem dX8_firstMoveTo_25 : decode cX8_firstMoveTo 25 = .ok (.goto 9, 3) := by decide +kernel
theorem dX8_firstMoveTo_28 : decode cX8_firstMoveTo 28 = .ok (.aload_n 0, 1) := by decide +kernel
theorem dX8_firstMoveTo_29 : decode cX8_firstMoveTo 29 = .ok (.getfield 22, 3) := by decide +kernel
theorem dX8_firstMoveTo_32 : decode cX8_firstMoveTo 32 = .ok (.iload_n 2, 1) := by decide +kernel
theorem dX8_firstMoveTo_33 : decode cX8_firstMoveTo 33 = .ok (.iaload, 1) := by decide +kernel
theorem dX8_firstMoveTo_34 : decode cX8_firstMoveTo 34 = .ok (.ireturn, 1) := by decide +kernel
set_option maxRecDepth 20000 in
theorem ggX8_unlikeOrders_X8_isLeastOfItsTurns : GoodIn wsX8_unlikeOrders wsX8_isLeastOfItsTurns := goodIn_r _ [7, 8, 9, 10, 11, 12, 13, 14, 15, 16, 17, 18, 6, 19, 20, 21, 22, 23, 24, 25, 26, 27, 28, 29, 30, 31, 32, 33, 34, 35, 36, 37, 38, 39, 40, 41, 42, 43, 44, 45, 46, 47, 48, 49, 50, 51, 52, 53, 54] (by decide +kernel) (by decide +kernel)
set_option maxRecDepth 20000 in
theorem gX8_unlikeOrders_X8_isLeastOfItsTurns : GoodIn wsX8_unlikeOrders (wsV RX8 112 RX8 yX8_isLeastOfItsTurns wsX8_isLeastOfItsTurns) := goodIn_app (goodIn_of _ (by decide +kernel)) ggX8_unlikeOrders_X8_isLeastOfItsTurns
theorem dX8_unlikeOrders_0 : decode cX8_unlikeOrders 0 = .ok (.iconst 0, 1) := by decide +kernel
theorem dX8_unlikeOrders_1 : decode cX8_unlikeOrders 1 = .ok (.istore_n 1, 1) := by decide +kernel
theorem dX8_unlikeOrders_2 : decode cX8_unlikeOrders 2 = .ok (.iconst 0, 1) := by decide +kernel
theorem dX8_unlikeOrders_3 : decode cX8_unlikeOrders 3 = .ok (.istore_n 2, 1) := by decide +kernel
theorem dX8_unlikeOrders_4 : decode cX8_unlikeOrders 4 = .ok (.iload_n 2, 1) := by decide +kernel
theorem dX8_unlikeOrders_5 : decode cX8_unlikeOrders 5 = .ok (.aload_n 0, 1) := by decide +kernel
theorem dX8_unlikeOrders_6 : decode cX8_unlikeOrders 6 = .ok (.getfield 54, 3) := by decide +kernel
theorem dX8_unlikeOrders_9 : decode cX8_unlikeOrders 9 = .ok (.if_icmp .ge 32, 3) := by decide +kernel
theorem dX8_unlikeOrders_12 : decode cX8_unlikeOrders 12 = .ok (.iload_n 2, 1) := by decide +kernel
theorem dX8_unlikeOrders_13 : decode cX8_unlikeOrders 13 = .ok (.sipush 7560, 3) := by decide +kernel
theorem dX8_unlikeOrders_16 : decode cX8_unlikeOrders 16 = .ok (.if_icmp .ge 25, 3) := by decide +kernel
theorem dX8_unlikeOrders_19 : decode cX8_unlikeOrders 19 = .ok (.aload_n 0, 1) := by decide +kernel
theorem dX8_unlikeOrders_20 : decode cX8_unlikeOrders 20 = .ok (.aload_n 0, 1) := by decide +kernel
theorem dX8_unlikeOrders_21 : decode cX8_unlikeOrders 21 = .ok (.getfield 9, 3) := by decide +kernel
theorem dX8_unlikeOrders_24 : decode cX8_unlikeOrders 24 = .ok (.iload_n 2, 1) := by decide +kernel
theorem dX8_unlikeOrders_25 : decode cX8_unlikeOrders 25 = .ok (.iaload, 1) := by decide +kernel
theorem dX8_unlikeOrders_26 : decode cX8_unlikeOrders 26 = .ok (.invokevirtual 112, 3) := by decide +kernel
theorem dX8_unlikeOrders_29 : decode cX8_unlikeOrders 29 = .ok (.ifCond .eq 6, 3) := by decide +kernel
theorem dX8_unlikeOrders_32 : decode cX8_unlikeOrders 32 = .ok (.iinc 1 1, 3) := by decide +kernel
theorem dX8_unlikeOrders_35 : decode cX8_unlikeOrders 35 = .ok (.iinc 2 1, 3) := by decide +kernel
theorem dX8_unlikeOrders_38 : decode cX8_unlikeOrders 38 = .ok (.goto (-34), 3) := by decide +kernel
theorem dX8_unlikeOrders_41 : decode cX8_unlikeOrders 41 = .ok (.iload_n 1, 1) := by decide +kernel
theorem dX8_unlikeOrders_42 : decode cX8_unlikeOrders 42 = .ok (.ireturn, 1) := by decide +kernel
set_option maxRecDepth 20000 in
theorem ggX8_isLeastOfItsTurns_X6_turned : GoodIn wsX8_isLeastOfItsTurns wsX6_turned := goodIn_r _ [7, 8, 38, 39, 40, 41, 42, 43] (by decide +kernel) (by decide +kernel)
set_option maxRecDepth 20000 in
theorem gX8_isLeastOfItsTurns_X6_turned : GoodIn wsX8_isLeastOfItsTurns (wsV RX8 116 RX6 yX6_turned wsX6_turned) := goodIn_app (goodIn_of _ (by decide +kernel)) ggX8_isLeastOfItsTurns_X6_turned
set_option maxRecDepth 20000 in
theorem ggX8_isLeastOfItsTurns_X8_stepsTo : GoodIn wsX8_isLeastOfItsTurns wsX8_stepsTo := goodIn_r _ [13, 14, 15, 16, 17, 18, 19, 20, 21, 22, 23, 24, 25, 26, 27, 28, 29, 30, 31, 32, 33, 34, 35, 36, 37, 44, 45, 46, 47, 48] (by decide +kernel) (by decide +kernel)
set_option maxRecDepth 20000 in
theorem gX8_isLeastOfItsTurns_X8_stepsTo : GoodIn wsX8_isLeastOfItsTurns (wsV RX8 119 RX8 yX8_stepsTo wsX8_stepsTo) := goodIn_app (goodIn_of _ (by decide +kernel)) ggX8_isLeastOfItsTurns_X8_stepsTo
theorem dX8_isLeastOfItsTurns_0 : decode cX8_isLeastOfItsTurns 0 = .ok (.iconst 1, 1) := by decide +kernel
theorem dX8_isLeastOfItsTurns_1 : decode cX8_isLeastOfItsTurns 1 = .ok (.istore_n 2, 1) := by decide +kernel
theorem dX8_isLeastOfItsTurns_2 : decode cX8_isLeastOfItsTurns 2 = .ok (.iload_n 2, 1) := by decide +kernel
theorem dX8_isLeastOfItsTurns_3 : decode cX8_isLeastOfItsTurns 3 = .ok (.aload_n 0, 1) := by decide +kernel
theorem dX8_isLeastOfItsTurns_4 : decode cX8_isLeastOfItsTurns 4 = .ok (.getfield 25, 3) := by decide +kernel
theorem dX8_isLeastOfItsTurns_7 : decode cX8_isLeastOfItsTurns 7 = .ok (.getfield 83, 3) := by decide +kernel
theorem dX8_isLeastOfItsTurns_10 : decode cX8_isLeastOfItsTurns 10 = .ok (.if_icmp .ge 35, 3) := by decide +kernel
theorem dX8_isLeastOfItsTurns_13 : decode cX8_isLeastOfItsTurns 13 = .ok (.aload_n 0, 1) := by decide +kernel
theorem dX8_isLeastOfItsTurns_14 : decode cX8_isLeastOfItsTurns 14 = .ok (.getfield 25, 3) := by decide +kernel
theorem dX8_isLeastOfItsTurns_17 : decode cX8_isLeastOfItsTurns 17 = .ok (.iload_n 1, 1) := by decide +kernel
theorem dX8_isLeastOfItsTurns_18 : decode cX8_isLeastOfItsTurns 18 = .ok (.iload_n 2, 1) := by decide +kernel
theorem dX8_isLeastOfItsTurns_19 : decode cX8_isLeastOfItsTurns 19 = .ok (.invokevirtual 116, 3) := by decide +kernel
theorem dX8_isLeastOfItsTurns_22 : decode cX8_isLeastOfItsTurns 22 = .ok (.istore_n 3, 1) := by decide +kernel
theorem dX8_isLeastOfItsTurns_23 : decode cX8_isLeastOfItsTurns 23 = .ok (.iload_n 3, 1) := by decide +kernel
theorem dX8_isLeastOfItsTurns_24 : decode cX8_isLeastOfItsTurns 24 = .ok (.iload_n 1, 1) := by decide +kernel
theorem dX8_isLeastOfItsTurns_25 : decode cX8_isLeastOfItsTurns 25 = .ok (.if_icmp .ge 14, 3) := by decide +kernel
theorem dX8_isLeastOfItsTurns_28 : decode cX8_isLeastOfItsTurns 28 = .ok (.aload_n 0, 1) := by decide +kernel
theorem dX8_isLeastOfItsTurns_29 : decode cX8_isLeastOfItsTurns 29 = .ok (.iload_n 3, 1) := by decide +kernel
theorem dX8_isLeastOfItsTurns_30 : decode cX8_isLeastOfItsTurns 30 = .ok (.invokevirtual 119, 3) := by decide +kernel
theorem dX8_isLeastOfItsTurns_33 : decode cX8_isLeastOfItsTurns 33 = .ok (.iconst (-1), 1) := by decide +kernel
theorem dX8_isLeastOfItsTurns_34 : decode cX8_isLeastOfItsTurns 34 = .ok (.if_icmp .eq 5, 3) := by decide +kernel
theorem dX8_isLeastOfItsTurns_37 : decode cX8_isLeastOfItsTurns 37 = .ok (.iconst 0, 1) := by decide +kernel
theorem dX8_isLeastOfItsTurns_38 : decode cX8_isLeastOfItsTurns 38 = .ok (.ireturn, 1) := by decide +kernel
theorem dX8_isLeastOfItsTurns_39 : decode cX8_isLeastOfItsTurns 39 = .ok (.iinc 2 1, 3) := by decide +kernel
theorem dX8_isLeastOfItsTurns_42 : decode cX8_isLeastOfItsTurns 42 = .ok (.goto (-40), 3) := by decide +kernel
theorem dX8_isLeastOfItsTurns_45 : decode cX8_isLeastOfItsTurns 45 = .ok (.iconst 1, 1) := by decide +kernel
theorem dX8_isLeastOfItsTurns_46 : decode cX8_isLeastOfItsTurns 46 = .ok (.ireturn, 1) := by decide +kernel
set_option maxRecDepth 20000 in
theorem ggX9_init_X5_init : GoodIn wsX9_init wsX5_init := goodIn_r _ [42, 43, 2, 3, 44, 45, 105, 106] (by decide +kernel) (by decide +kernel)
set_option maxRecDepth 20000 in
theorem gX9_init_X5_init_n9 : GoodIn wsX9_init (wsX5_init) := ggX9_init_X5_init
set_option maxRecDepth 20000 in
theorem ggX9_init_X7_init : GoodIn wsX9_init wsX7_init := goodIn_r _ [47, 48, 2, 3] (by decide +kernel) (by decide +kernel)
set_option maxRecDepth 20000 in
theorem gX9_init_X7_init_n18 : GoodIn wsX9_init (wsX7_init) := ggX9_init_X7_init
set_option maxRecDepth 20000 in
theorem ggX9_init_X6_init : GoodIn wsX9_init wsX6_init := goodIn_r _ [50, 51, 2, 3, 44, 52, 53, 128, 129, 130, 131, 132, 133] (by decide +kernel) (by decide +kernel)
set_option maxRecDepth 20000 in
theorem gX9_init_X6_init_n25 : GoodIn wsX9_init (wsX6_init) := ggX9_init_X6_init
set_option maxRecDepth 20000 in
theorem ggX9_init_X3_init : GoodIn wsX9_init wsX3_init := goodIn_r _ [56, 57, 2, 3, 44, 58, 59, 134, 135] (by decide +kernel) (by decide +kernel)
set_option maxRecDepth 20000 in
theorem gX9_init_X3_init : GoodIn wsX9_init (wsX3_init) := ggX9_init_X3_init
set_option maxRecDepth 20000 in
theorem ggX9_init_X4_init : GoodIn wsX9_init wsX4_init := goodIn_r _ [61, 62, 2, 3, 44, 63, 64, 65, 136, 137, 138, 139, 140] (by decide +kernel) (by decide +kernel)
set_option maxRecDepth 20000 in
theorem gX9_init_X4_init_n41 : GoodIn wsX9_init (wsX4_init) := ggX9_init_X4_init
set_option maxRecDepth 20000 in
theorem ggX9_init_X8_init : GoodIn wsX9_init wsX8_init := goodIn_r _ [68, 69, 2, 3, 44, 70, 71, 72, 73, 74, 75, 76, 77, 141, 142, 143, 144, 145, 146, 147, 148, 149, 150, 151, 152, 153] (by decide +kernel) (by decide +kernel)
set_option maxRecDepth 20000 in
theorem gX9_init_X8_init : GoodIn wsX9_init (wsX8_init) := ggX9_init_X8_init
set_option maxRecDepth 20000 in
theorem ggX9_init_X2_init : GoodIn wsX9_init wsX2_init := goodIn_r _ [80, 81, 2, 3, 44, 82, 83, 84, 85, 86, 87, 88, 89, 154, 155, 156, 157, 158, 159, 160, 161, 162] (by decide +kernel) (by decide +kernel)
set_option maxRecDepth 20000 in
theorem gX9_init_X2_init : GoodIn wsX9_init (wsX2_init) := ggX9_init_X2_init
set_option maxRecDepth 20000 in
theorem ggX9_init_X0_init : GoodIn wsX9_init wsX0_init := goodIn_r _ [92, 93, 2, 3, 44, 94, 95, 96, 97, 98, 99, 163, 164, 165, 166, 167, 168, 169, 170, 171] (by decide +kernel) (by decide +kernel)
set_option maxRecDepth 20000 in
theorem gX9_init_X0_init : GoodIn wsX9_init (wsX0_init) := ggX9_init_X0_init
set_option maxRecDepth 20000 in
theorem ggX9_init_X1_init : GoodIn wsX9_init wsX1_init := goodIn_r _ [101, 102, 2, 3, 44, 103, 104, 172, 173, 174, 175] (by decide +kernel) (by decide +kernel)
set_option maxRecDepth 20000 in
theorem gX9_init_X1_init_n73 : GoodIn wsX9_init (wsX1_init) := ggX9_init_X1_init
theorem dX9_init_0 : decode cX9_init 0 = .ok (.aload_n 0, 1) := by decide +kernel
theorem dX9_init_1 : decode cX9_init 1 = .ok (.invokespecial 1, 3) := by decide +kernel
theorem dX9_init_4 : decode cX9_init 4 = .ok (.aload_n 0, 1) := by decide +kernel
theorem dX9_init_5 : decode cX9_init 5 = .ok (.new 7, 3) := by decide +kernel
theorem dX9_init_8 : decode cX9_init 8 = .ok (.dup, 1) := by decide +kernel
theorem dX9_init_9 : decode cX9_init 9 = .ok (.invokespecial 9, 3) := by decide +kernel
theorem dX9_init_12 : decode cX9_init 12 = .ok (.putfield 10, 3) := by decide +kernel
theorem dX9_init_15 : decode cX9_init 15 = .ok (.aload_n 0, 1) := by decide +kernel
theorem dX9_init_16 : decode cX9_init 16 = .ok (.new 16, 3) := by decide +kernel
theorem dX9_init_19 : decode cX9_init 19 = .ok (.dup, 1) := by decide +kernel
theorem dX9_init_20 : decode cX9_init 20 = .ok (.invokespecial 18, 3) := by decide +kernel
theorem dX9_init_23 : decode cX9_init 23 = .ok (.putfield 19, 3) := by decide +kernel
theorem dX9_init_26 : decode cX9_init 26 = .ok (.aload_n 0, 1) := by decide +kernel
theorem dX9_init_27 : decode cX9_init 27 = .ok (.new 23, 3) := by decide +kernel
theorem dX9_init_30 : decode cX9_init 30 = .ok (.dup, 1) := by decide +kernel
theorem dX9_init_31 : decode cX9_init 31 = .ok (.invokespecial 25, 3) := by decide +kernel
theorem dX9_init_34 : decode cX9_init 34 = .ok (.putfield 26, 3) := by decide +kernel
theorem dX9_init_37 : decode cX9_init 37 = .ok (.aload_n 0, 1) := by decide +kernel
theorem dX9_init_38 : decode cX9_init 38 = .ok (.new 30, 3) := by decide +kernel
theorem dX9_init_41 : decode cX9_init 41 = .ok (.dup, 1) := by decide +kernel
theorem dX9_init_42 : decode cX9_init 42 = .ok (.aload_n 0, 1) := by decide +kernel
theorem dX9_init_43 : decode cX9_init 43 = .ok (.getfield 26, 3) := by decide +kernel
theorem dX9_init_46 : decode cX9_init 46 = .ok (.invokespecial 32, 3) := by decide +kernel
theorem dX9_init_49 : decode cX9_init 49 = .ok (.putfield 35, 3) := by decide +kernel
theorem dX9_init_52 : decode cX9_init 52 = .ok (.aload_n 0, 1) := by decide +kernel
theorem dX9_init_53 : decode cX9_init 53 = .ok (.new 39, 3) := by decide +kernel
theorem dX9_init_56 : decode cX9_init 56 = .ok (.dup, 1) := by decide +kernel
theorem dX9_init_57 : decode cX9_init 57 = .ok (.invokespecial 41, 3) := by decide +kernel
theorem dX9_init_60 : decode cX9_init 60 = .ok (.putfield 42, 3) := by decide +kernel
theorem dX9_init_63 : decode cX9_init 63 = .ok (.aload_n 0, 1) := by decide +kernel
theorem dX9_init_64 : decode cX9_init 64 = .ok (.new 46, 3) := by decide +kernel
theorem dX9_init_67 : decode cX9_init 67 = .ok (.dup, 1) := by decide +kernel
theorem dX9_init_68 : decode cX9_init 68 = .ok (.aload_n 0, 1) := by decide +kernel
theorem dX9_init_69 : decode cX9_init 69 = .ok (.getfield 26, 3) := by decide +kernel
theorem dX9_init_72 : decode cX9_init 72 = .ok (.aload_n 0, 1) := by decide +kernel
theorem dX9_init_73 : decode cX9_init 73 = .ok (.getfield 35, 3) := by decide +kernel
theorem dX9_init_76 : decode cX9_init 76 = .ok (.aload_n 0, 1) := by decide +kernel
theorem dX9_init_77 : decode cX9_init 77 = .ok (.getfield 42, 3) := by decide +kernel
theorem dX9_init_80 : decode cX9_init 80 = .ok (.invokespecial 48, 3) := by decide +kernel
theorem dX9_init_83 : decode cX9_init 83 = .ok (.putfield 51, 3) := by decide +kernel
theorem dX9_init_86 : decode cX9_init 86 = .ok (.aload_n 0, 1) := by decide +kernel
theorem dX9_init_87 : decode cX9_init 87 = .ok (.new 55, 3) := by decide +kernel
theorem dX9_init_90 : decode cX9_init 90 = .ok (.dup, 1) := by decide +kernel
theorem dX9_init_91 : decode cX9_init 91 = .ok (.aload_n 0, 1) := by decide +kernel
theorem dX9_init_92 : decode cX9_init 92 = .ok (.getfield 26, 3) := by decide +kernel
theorem dX9_init_95 : decode cX9_init 95 = .ok (.aload_n 0, 1) := by decide +kernel
theorem dX9_init_96 : decode cX9_init 96 = .ok (.getfield 35, 3) := by decide +kernel
theorem dX9_init_99 : decode cX9_init 99 = .ok (.aload_n 0, 1) := by decide +kernel
theorem dX9_init_100 : decode cX9_init 100 = .ok (.getfield 42, 3) := by decide +kernel
theorem dX9_init_103 : decode cX9_init 103 = .ok (.aload_n 0, 1) := by decide +kernel
theorem dX9_init_104 : decode cX9_init 104 = .ok (.getfield 51, 3) := by decide +kernel
theorem dX9_init_107 : decode cX9_init 107 = .ok (.invokespecial 57, 3) := by decide +kernel
theorem dX9_init_110 : decode cX9_init 110 = .ok (.putfield 60, 3) := by decide +kernel
theorem dX9_init_113 : decode cX9_init 113 = .ok (.aload_n 0, 1) := by decide +kernel
theorem dX9_init_114 : decode cX9_init 114 = .ok (.new 64, 3) := by decide +kernel
theorem dX9_init_117 : decode cX9_init 117 = .ok (.dup, 1) := by decide +kernel
theorem dX9_init_118 : decode cX9_init 118 = .ok (.aload_n 0, 1) := by decide +kernel
theorem dX9_init_119 : decode cX9_init 119 = .ok (.getfield 26, 3) := by decide +kernel
theorem dX9_init_122 : decode cX9_init 122 = .ok (.aload_n 0, 1) := by decide +kernel
theorem dX9_init_123 : decode cX9_init 123 = .ok (.getfield 35, 3) := by decide +kernel
theorem dX9_init_126 : decode cX9_init 126 = .ok (.aload_n 0, 1) := by decide +kernel
theorem dX9_init_127 : decode cX9_init 127 = .ok (.getfield 42, 3) := by decide +kernel
theorem dX9_init_130 : decode cX9_init 130 = .ok (.aload_n 0, 1) := by decide +kernel
theorem dX9_init_131 : decode cX9_init 131 = .ok (.getfield 51, 3) := by decide +kernel
theorem dX9_init_134 : decode cX9_init 134 = .ok (.invokespecial 66, 3) := by decide +kernel
theorem dX9_init_137 : decode cX9_init 137 = .ok (.putfield 67, 3) := by decide +kernel
theorem dX9_init_140 : decode cX9_init 140 = .ok (.aload_n 0, 1) := by decide +kernel
theorem dX9_init_141 : decode cX9_init 141 = .ok (.new 71, 3) := by decide +kernel
theorem dX9_init_144 : decode cX9_init 144 = .ok (.dup, 1) := by decide +kernel
theorem dX9_init_145 : decode cX9_init 145 = .ok (.invokespecial 73, 3) := by decide +kernel
theorem dX9_init_148 : decode cX9_init 148 = .ok (.putfield 74, 3) := by decide +kernel
theorem dX9_init_151 : decode cX9_init 151 = .ok (.aload_n 0, 1) := by decide +kernel
theorem dX9_init_152 : decode cX9_init 152 = .ok (.new 71, 3) := by decide +kernel
theorem dX9_init_155 : decode cX9_init 155 = .ok (.dup, 1) := by decide +kernel
theorem dX9_init_156 : decode cX9_init 156 = .ok (.invokespecial 73, 3) := by decide +kernel
theorem dX9_init_159 : decode cX9_init 159 = .ok (.putfield 78, 3) := by decide +kernel
theorem dX9_init_162 : decode cX9_init 162 = .ok (.return_, 1) := by decide +kernel
set_option maxRecDepth 20000 in
theorem ggX9_letters_X5_lettersIn : GoodIn wsX9_letters wsX5_lettersIn := goodIn_r _ [6, 7, 8, 5, 9] (by decide +kernel) (by decide +kernel)
set_option maxRecDepth 20000 in
theorem gX9_letters_X5_lettersIn : GoodIn wsX9_letters (va_wsS RX9 81 yX5_lettersIn wsX5_lettersIn) := goodIn_app (goodIn_of _ (by decide +kernel)) ggX9_letters_X5_lettersIn
set_option maxRecDepth 20000 in
theorem ggX9_letters_X5_append : GoodIn wsX9_letters wsX5_append := goodIn_r _ [13, 14, 15, 7, 8, 5, 9, 30, 31] (by decide +kernel) (by decide +kernel)
set_option maxRecDepth 20000 in
theorem gX9_letters_X5_append : GoodIn wsX9_letters (wsV RX9 89 RX5 yX5_append wsX5_append) := goodIn_app (goodIn_of _ (by decide +kernel)) ggX9_letters_X5_append
theorem dX9_letters_0 : decode cX9_letters 0 = .ok (.lload_n 1, 1) := by decide +kernel
theorem dX9_letters_1 : decode cX9_letters 1 = .ok (.invokestatic 81, 3) := by decide +kernel
theorem dX9_letters_4 : decode cX9_letters 4 = .ok (.istore_n 3, 1) := by decide +kernel
theorem dX9_letters_5 : decode cX9_letters 5 = .ok (.iload_n 3, 1) := by decide +kernel
theorem dX9_letters_6 : decode cX9_letters 6 = .ok (.bipush (-102), 2) := by decide +kernel
theorem dX9_letters_8 : decode cX9_letters 8 = .ok (.if_icmp .ne 6, 3) := by decide +kernel
theorem dX9_letters_11 : decode cX9_letters 11 = .ok (.bipush (-102), 2) := by decide +kernel
theorem dX9_letters_13 : decode cX9_letters 13 = .ok (.ireturn, 1) := by decide +kernel
theorem dX9_letters_14 : decode cX9_letters 14 = .ok (.aload_n 0, 1) := by decide +kernel
theorem dX9_letters_15 : decode cX9_letters 15 = .ok (.getfield 10, 3) := by decide +kernel
theorem dX9_letters_18 : decode cX9_letters 18 = .ok (.getfield 85, 3) := by decide +kernel
theorem dX9_letters_21 : decode cX9_letters 21 = .ok (.iload_n 3, 1) := by decide +kernel
theorem dX9_letters_22 : decode cX9_letters 22 = .ok (.iadd, 1) := by decide +kernel
theorem dX9_letters_23 : decode cX9_letters 23 = .ok (.bipush 24, 2) := by decide +kernel
theorem dX9_letters_25 : decode cX9_letters 25 = .ok (.if_icmp .le 6, 3) := by decide +kernel
theorem dX9_letters_28 : decode cX9_letters 28 = .ok (.bipush (-104), 2) := by decide +kernel
theorem dX9_letters_30 : decode cX9_letters 30 = .ok (.ireturn, 1) := by decide +kernel
theorem dX9_letters_31 : decode cX9_letters 31 = .ok (.aload_n 0, 1) := by decide +kernel
theorem dX9_letters_32 : decode cX9_letters 32 = .ok (.getfield 10, 3) := by decide +kernel
theorem dX9_letters_35 : decode cX9_letters 35 = .ok (.lload_n 1, 1) := by decide +kernel
theorem dX9_letters_36 : decode cX9_letters 36 = .ok (.iload_n 3, 1) := by decide +kernel
theorem dX9_letters_37 : decode cX9_letters 37 = .ok (.invokevirtual 89, 3) := by decide +kernel
theorem dX9_letters_40 : decode cX9_letters 40 = .ok (.aload_n 0, 1) := by decide +kernel
theorem dX9_letters_41 : decode cX9_letters 41 = .ok (.getfield 10, 3) := by decide +kernel
theorem dX9_letters_44 : decode cX9_letters 44 = .ok (.getfield 85, 3) := by decide +kernel
theorem dX9_letters_47 : decode cX9_letters 47 = .ok (.ireturn, 1) := by decide +kernel
set_option maxRecDepth 20000 in
theorem ggX9_blank_X5_clear : GoodIn wsX9_blank wsX5_clear := goodIn_r _ [7, 8, 23, 24] (by decide +kernel) (by decide +kernel)
set_option maxRecDepth 20000 in
theorem gX9_blank_X5_clear : GoodIn wsX9_blank (wsV RX9 93 RX5 yX5_clear wsX5_clear) := goodIn_app (goodIn_of _ (by decide +kernel)) ggX9_blank_X5_clear
theorem dX9_blank_0 : decode cX9_blank 0 = .ok (.aload_n 0, 1) := by decide +kernel
theorem dX9_blank_1 : decode cX9_blank 1 = .ok (.getfield 10, 3) := by decide +kernel
theorem dX9_blank_4 : decode cX9_blank 4 = .ok (.getfield 85, 3) := by decide +kernel
theorem dX9_blank_7 : decode cX9_blank 7 = .ok (.istore_n 1, 1) := by decide +kernel
theorem dX9_blank_8 : decode cX9_blank 8 = .ok (.aload_n 0, 1) := by decide +kernel
theorem dX9_blank_9 : decode cX9_blank 9 = .ok (.getfield 10, 3) := by decide +kernel
theorem dX9_blank_12 : decode cX9_blank 12 = .ok (.invokevirtual 93, 3) := by decide +kernel
theorem dX9_blank_15 : decode cX9_blank 15 = .ok (.iload_n 1, 1) := by decide +kernel
theorem dX9_blank_16 : decode cX9_blank 16 = .ok (.ireturn, 1) := by decide +kernel
set_option maxRecDepth 20000 in
theorem ggX9_fault_X7_read : GoodIn wsX9_fault wsX7_read := goodIn_r _ [8, 9, 10, 11, 12, 13, 14, 15, 16, 17, 18, 19, 7, 20, 21, 22, 23, 24, 25, 26, 27, 28, 29, 30, 31, 32, 33, 34, 35, 36, 37, 38, 39, 40, 41, 42, 57, 58, 59, 60, 61, 62, 63, 64, 65] (by decide +kernel) (by decide +kernel)
set_option maxRecDepth 20000 in
theorem gX9_fault_X7_read : GoodIn wsX9_fault (wsV RX9 96 RX7 yX7_read wsX7_read) := goodIn_app (goodIn_of _ (by decide +kernel)) ggX9_fault_X7_read
theorem dX9_fault_0 : decode cX9_fault 0 = .ok (.aload_n 0, 1) := by decide +kernel
theorem dX9_fault_1 : decode cX9_fault 1 = .ok (.getfield 19, 3) := by decide +kernel
theorem dX9_fault_4 : decode cX9_fault 4 = .ok (.aload_n 0, 1) := by decide +kernel
theorem dX9_fault_5 : decode cX9_fault 5 = .ok (.getfield 10, 3) := by decide +kernel
theorem dX9_fault_8 : decode cX9_fault 8 = .ok (.invokevirtual 96, 3) := by decide +kernel
theorem dX9_fault_11 : decode cX9_fault 11 = .ok (.aload_n 0, 1) := by decide +kernel
theorem dX9_fault_12 : decode cX9_fault 12 = .ok (.getfield 19, 3) := by decide +kernel
theorem dX9_fault_15 : decode cX9_fault 15 = .ok (.getfield 100, 3) := by decide +kernel
theorem dX9_fault_18 : decode cX9_fault 18 = .ok (.ireturn, 1) := by decide +kernel
set_option maxRecDepth 20000 in
theorem ggX9_stones_X7_read : GoodIn wsX9_stones wsX7_read := goodIn_r _ [18, 19, 20, 21, 22, 23, 24, 25, 26, 27, 28, 29, 17, 30, 31, 32, 33, 34, 35, 36, 37, 38, 39, 40, 41, 42, 43, 44, 45, 46, 47, 48, 49, 50, 51, 52, 144, 145, 146, 147, 148, 149, 150, 161, 162] (by decide +kernel) (by decide +kernel)
set_option maxRecDepth 20000 in
theorem gX9_stones_X7_read : GoodIn wsX9_stones (wsV RX9 96 RX7 yX7_read wsX7_read) := goodIn_app (goodIn_of _ (by decide +kernel)) ggX9_stones_X7_read
set_option maxRecDepth 20000 in
theorem ggX9_stones_X6_lay : GoodIn wsX9_stones wsX6_lay := goodIn_r _ [57, 58, 59, 60, 61, 62, 63, 64, 65, 66, 67, 68, 69, 32, 33, 34, 35, 36, 37, 70, 71, 72, 56, 73, 144, 145, 146, 147, 148, 149, 150, 151, 152, 153, 154, 155, 156, 161, 162] (by decide +kernel) (by decide +kernel)
set_option maxRecDepth 20000 in
theorem gX9_stones_X6_lay : GoodIn wsX9_stones (wsV RX9 107 RX6 yX6_lay wsX6_lay) := goodIn_app (goodIn_of _ (by decide +kernel)) ggX9_stones_X6_lay
set_option maxRecDepth 20000 in
theorem ggX9_stones_X5_orderAt : GoodIn wsX9_stones wsX5_orderAt := goodIn_r _ [77, 78, 32, 33, 34, 35, 36, 37, 46, 47, 48, 161, 162] (by decide +kernel) (by decide +kernel)
set_option maxRecDepth 20000 in
theorem gX9_stones_X5_orderAt : GoodIn wsX9_stones (wsV RX9 115 RX5 yX5_orderAt wsX5_orderAt) := goodIn_app (goodIn_of _ (by decide +kernel)) ggX9_stones_X5_orderAt
set_option maxRecDepth 20000 in
theorem ggX9_stones_X1_begin : GoodIn wsX9_stones wsX1_begin := goodIn_r _ [83, 84, 85, 157, 158, 159, 160] (by decide +kernel) (by decide +kernel)
set_option maxRecDepth 20000 in
theorem gX9_stones_X1_begin : GoodIn wsX9_stones (wsV RX9 119 RX1 yX1_begin wsX1_begin) := goodIn_app (goodIn_of _ (by decide +kernel)) ggX9_stones_X1_begin
set_option maxRecDepth 20000 in
theorem ggX9_stones_X4_prepare : GoodIn wsX9_stones wsX4_prepare := goodIn_r _ [90, 91, 92, 93, 94, 95, 96, 97, 98, 99, 100, 101, 102, 103, 89, 104, 105, 106, 107, 108, 109, 47, 110, 111, 112, 113, 114, 115, 116, 117, 118, 119, 163, 164, 165, 166, 167] (by decide +kernel) (by decide +kernel)
set_option maxRecDepth 20000 in
theorem gX9_stones_X4_prepare : GoodIn wsX9_stones (wsV RX9 126 RX4 yX4_prepare wsX4_prepare) := goodIn_app (goodIn_of _ (by decide +kernel)) ggX9_stones_X4_prepare
set_option maxRecDepth 20000 in
theorem ggX9_stones_X8_forget : GoodIn wsX9_stones wsX8_forget := goodIn_r _ [124, 125, 168, 169, 170, 171, 172, 173, 174, 175, 176, 177, 178, 179, 180] (by decide +kernel) (by decide +kernel)
set_option maxRecDepth 20000 in
theorem gX9_stones_X8_forget : GoodIn wsX9_stones (wsV RX9 130 RX8 yX8_forget wsX8_forget) := goodIn_app (goodIn_of _ (by decide +kernel)) ggX9_stones_X8_forget
set_option maxRecDepth 20000 in
theorem ggX9_stones_X5_clear : GoodIn wsX9_stones wsX5_clear := goodIn_r _ [129, 36, 161, 162] (by decide +kernel) (by decide +kernel)
set_option maxRecDepth 20000 in
theorem gX9_stones_X5_clear : GoodIn wsX9_stones (wsV RX9 93 RX5 yX5_clear wsX5_clear) := goodIn_app (goodIn_of _ (by decide +kernel)) ggX9_stones_X5_clear
theorem dX9_stones_0 : decode cX9_stones 0 = .ok (.aload_n 0, 1) := by decide +kernel
theorem dX9_stones_1 : decode cX9_stones 1 = .ok (.getfield 19, 3) := by decide +kernel
theorem dX9_stones_4 : decode cX9_stones 4 = .ok (.aload_n 0, 1) := by decide +kernel
theorem dX9_stones_5 : decode cX9_stones 5 = .ok (.getfield 10, 3) := by decide +kernel
theorem dX9_stones_8 : decode cX9_stones 8 = .ok (.invokevirtual 96, 3) := by decide +kernel
theorem dX9_stones_11 : decode cX9_stones 11 = .ok (.aload_n 0, 1) := by decide +kernel
theorem dX9_stones_12 : decode cX9_stones 12 = .ok (.getfield 19, 3) := by decide +kernel
theorem dX9_stones_15 : decode cX9_stones 15 = .ok (.getfield 103, 3) := by decide +kernel
theorem dX9_stones_18 : decode cX9_stones 18 = .ok (.ifCond .ne 6, 3) := by decide +kernel
theorem dX9_stones_21 : decode cX9_stones 21 = .ok (.bipush (-103), 2) := by decide +kernel
theorem dX9_stones_23 : decode cX9_stones 23 = .ok (.ireturn, 1) := by decide +kernel
theorem dX9_stones_24 : decode cX9_stones 24 = .ok (.aload_n 0, 1) := by decide +kernel
theorem dX9_stones_25 : decode cX9_stones 25 = .ok (.getfield 26, 3) := by decide +kernel
theorem dX9_stones_28 : decode cX9_stones 28 = .ok (.aload_n 0, 1) := by decide +kernel
theorem dX9_stones_29 : decode cX9_stones 29 = .ok (.getfield 19, 3) := by decide +kernel
theorem dX9_stones_32 : decode cX9_stones 32 = .ok (.aload_n 0, 1) := by decide +kernel
theorem dX9_stones_33 : decode cX9_stones 33 = .ok (.getfield 10, 3) := by decide +kernel
theorem dX9_stones_36 : decode cX9_stones 36 = .ok (.invokevirtual 107, 3) := by decide +kernel
theorem dX9_stones_39 : decode cX9_stones 39 = .ok (.aload_n 0, 1) := by decide +kernel
theorem dX9_stones_40 : decode cX9_stones 40 = .ok (.getfield 74, 3) := by decide +kernel
theorem dX9_stones_43 : decode cX9_stones 43 = .ok (.aload_n 0, 1) := by decide +kernel
theorem dX9_stones_44 : decode cX9_stones 44 = .ok (.getfield 10, 3) := by decide +kernel
theorem dX9_stones_47 : decode cX9_stones 47 = .ok (.aload_n 0, 1) := by decide +kernel
theorem dX9_stones_48 : decode cX9_stones 48 = .ok (.getfield 19, 3) := by decide +kernel
theorem dX9_stones_51 : decode cX9_stones 51 = .ok (.getfield 111, 3) := by decide +kernel
theorem dX9_stones_54 : decode cX9_stones 54 = .ok (.aload_n 0, 1) := by decide +kernel
theorem dX9_stones_55 : decode cX9_stones 55 = .ok (.getfield 26, 3) := by decide +kernel
theorem dX9_stones_58 : decode cX9_stones 58 = .ok (.getfield 114, 3) := by decide +kernel
theorem dX9_stones_61 : decode cX9_stones 61 = .ok (.invokevirtual 115, 3) := by decide +kernel
theorem dX9_stones_64 : decode cX9_stones 64 = .ok (.invokevirtual 119, 3) := by decide +kernel
theorem dX9_stones_67 : decode cX9_stones 67 = .ok (.aload_n 0, 1) := by decide +kernel
theorem dX9_stones_68 : decode cX9_stones 68 = .ok (.getfield 42, 3) := by decide +kernel
theorem dX9_stones_71 : decode cX9_stones 71 = .ok (.aload_n 0, 1) := by decide +kernel
theorem dX9_stones_72 : decode cX9_stones 72 = .ok (.getfield 74, 3) := by decide +kernel
theorem dX9_stones_75 : decode cX9_stones 75 = .ok (.getfield 123, 3) := by decide +kernel
theorem dX9_stones_78 : decode cX9_stones 78 = .ok (.aload_n 0, 1) := by decide +kernel
theorem dX9_stones_79 : decode cX9_stones 79 = .ok (.getfield 26, 3) := by decide +kernel
theorem dX9_stones_82 : decode cX9_stones 82 = .ok (.getfield 114, 3) := by decide +kernel
theorem dX9_stones_85 : decode cX9_stones 85 = .ok (.invokevirtual 126, 3) := by decide +kernel
theorem dX9_stones_88 : decode cX9_stones 88 = .ok (.aload_n 0, 1) := by decide +kernel
theorem dX9_stones_89 : decode cX9_stones 89 = .ok (.getfield 51, 3) := by decide +kernel
theorem dX9_stones_92 : decode cX9_stones 92 = .ok (.invokevirtual 130, 3) := by decide +kernel
theorem dX9_stones_95 : decode cX9_stones 95 = .ok (.aload_n 0, 1) := by decide +kernel
theorem dX9_stones_96 : decode cX9_stones 96 = .ok (.iconst 0, 1) := by decide +kernel
theorem dX9_stones_97 : decode cX9_stones 97 = .ok (.putfield 133, 3) := by decide +kernel
theorem dX9_stones_100 : decode cX9_stones 100 = .ok (.aload_n 0, 1) := by decide +kernel
theorem dX9_stones_101 : decode cX9_stones 101 = .ok (.iconst 0, 1) := by decide +kernel
theorem dX9_stones_102 : decode cX9_stones 102 = .ok (.putfield 136, 3) := by decide +kernel
theorem dX9_stones_105 : decode cX9_stones 105 = .ok (.aload_n 0, 1) := by decide +kernel
theorem dX9_stones_106 : decode cX9_stones 106 = .ok (.dup, 1) := by decide +kernel
theorem dX9_stones_107 : decode cX9_stones 107 = .ok (.getfield 139, 3) := by decide +kernel
theorem dX9_stones_110 : decode cX9_stones 110 = .ok (.iconst 1, 1) := by decide +kernel
theorem dX9_stones_111 : decode cX9_stones 111 = .ok (.iadd, 1) := by decide +kernel
theorem dX9_stones_112 : decode cX9_stones 112 = .ok (.putfield 139, 3) := by decide +kernel
theorem dX9_stones_115 : decode cX9_stones 115 = .ok (.aload_n 0, 1) := by decide +kernel
theorem dX9_stones_116 : decode cX9_stones 116 = .ok (.getfield 10, 3) := by decide +kernel
theorem dX9_stones_119 : decode cX9_stones 119 = .ok (.invokevirtual 93, 3) := by decide +kernel
theorem dX9_stones_122 : decode cX9_stones 122 = .ok (.aload_n 0, 1) := by decide +kernel
theorem dX9_stones_123 : decode cX9_stones 123 = .ok (.getfield 26, 3) := by decide +kernel
theorem dX9_stones_126 : decode cX9_stones 126 = .ok (.getfield 114, 3) := by decide +kernel
theorem dX9_stones_129 : decode cX9_stones 129 = .ok (.ireturn, 1) := by decide +kernel
set_option maxRecDepth 20000 in
theorem ggX9_aim_X9_noStones : GoodIn wsX9_aim wsX9_noStones := goodIn_r _ [10, 2, 3, 46, 47, 48, 49, 50, 51, 52, 53, 54, 55, 56, 57, 58, 59, 60, 61, 62, 63, 64, 65] (by decide +kernel) (by decide +kernel)
set_option maxRecDepth 20000 in
theorem gX9_aim_X9_noStones : GoodIn wsX9_aim (wsV RX9 142 RX9 yX9_noStones wsX9_noStones) := goodIn_app (goodIn_of _ (by decide +kernel)) ggX9_aim_X9_noStones
set_option maxRecDepth 20000 in
theorem ggX9_aim_X9_pageIsAim : GoodIn wsX9_aim wsX9_pageIsAim := goodIn_r _ [14, 1, 15, 2, 3, 16, 17, 18, 19, 20, 21, 22, 23, 24, 25, 26, 9, 27, 28, 29, 30, 31, 32, 33, 34, 35, 36, 37, 38, 46, 47, 48, 49, 50, 51, 52, 53, 54, 55, 56, 57, 58, 59, 66, 67, 60, 61, 62, 63, 64, 65, 68, 69, 70, 71] (by decide +kernel) (by decide +kernel)
set_option maxRecDepth 20000 in
theorem gX9_aim_X9_pageIsAim : GoodIn wsX9_aim (wsV RX9 146 RX9 yX9_pageIsAim wsX9_pageIsAim) := goodIn_app (goodIn_of _ (by decide +kernel)) ggX9_aim_X9_pageIsAim
set_option maxRecDepth 20000 in
theorem ggX9_aim_X5_orderAt : GoodIn wsX9_aim wsX5_orderAt := goodIn_r _ [31, 32, 19, 20, 21, 22, 23, 24, 26, 9, 27, 66, 67] (by decide +kernel) (by decide +kernel)
set_option maxRecDepth 20000 in
theorem gX9_aim_X5_orderAt : GoodIn wsX9_aim (wsV RX9 115 RX5 yX5_orderAt wsX5_orderAt) := goodIn_app (goodIn_of _ (by decide +kernel)) ggX9_aim_X5_orderAt
set_option maxRecDepth 20000 in
theorem ggX9_aim_X5_clear : GoodIn wsX9_aim wsX5_clear := goodIn_r _ [42, 23, 66, 67] (by decide +kernel) (by decide +kernel)
set_option maxRecDepth 20000 in
theorem gX9_aim_X5_clear : GoodIn wsX9_aim (wsV RX9 93 RX5 yX5_clear wsX5_clear) := goodIn_app (goodIn_of _ (by decide +kernel)) ggX9_aim_X5_clear
set_option maxRecDepth 20000 in
theorem ggX9_aim_X9_frogsOf : GoodIn wsX9_aim wsX9_frogsOf := goodIn_r _ [45, 33, 34, 9, 35, 36, 37, 38] (by decide +kernel) (by decide +kernel)
set_option maxRecDepth 20000 in
theorem gX9_aim_X9_frogsOf : GoodIn wsX9_aim (va_wsS RX9 152 yX9_frogsOf wsX9_frogsOf) := goodIn_app (goodIn_of _ (by decide +kernel)) ggX9_aim_X9_frogsOf
theorem dX9_aim_0 : decode cX9_aim 0 = .ok (.aload_n 0, 1) := by decide +kernel
theorem dX9_aim_1 : decode cX9_aim 1 = .ok (.invokevirtual 142, 3) := by decide +kernel
theorem dX9_aim_4 : decode cX9_aim 4 = .ok (.ifCond .ne 10, 3) := by decide +kernel
theorem dX9_aim_7 : decode cX9_aim 7 = .ok (.aload_n 0, 1) := by decide +kernel
theorem dX9_aim_8 : decode cX9_aim 8 = .ok (.invokevirtual 146, 3) := by decide +kernel
theorem dX9_aim_11 : decode cX9_aim 11 = .ok (.ifCond .ne 6, 3) := by decide +kernel
theorem dX9_aim_14 : decode cX9_aim 14 = .ok (.bipush (-103), 2) := by decide +kernel
theorem dX9_aim_16 : decode cX9_aim 16 = .ok (.ireturn, 1) := by decide +kernel
theorem dX9_aim_17 : decode cX9_aim 17 = .ok (.aload_n 0, 1) := by decide +kernel
theorem dX9_aim_18 : decode cX9_aim 18 = .ok (.aload_n 0, 1) := by decide +kernel
theorem dX9_aim_19 : decode cX9_aim 19 = .ok (.getfield 10, 3) := by decide +kernel
theorem dX9_aim_22 : decode cX9_aim 22 = .ok (.iconst 0, 1) := by decide +kernel
theorem dX9_aim_23 : decode cX9_aim 23 = .ok (.aload_n 0, 1) := by decide +kernel
theorem dX9_aim_24 : decode cX9_aim 24 = .ok (.getfield 26, 3) := by decide +kernel
theorem dX9_aim_27 : decode cX9_aim 27 = .ok (.getfield 114, 3) := by decide +kernel
theorem dX9_aim_30 : decode cX9_aim 30 = .ok (.invokevirtual 115, 3) := by decide +kernel
theorem dX9_aim_33 : decode cX9_aim 33 = .ok (.putfield 149, 3) := by decide +kernel
theorem dX9_aim_36 : decode cX9_aim 36 = .ok (.aload_n 0, 1) := by decide +kernel
theorem dX9_aim_37 : decode cX9_aim 37 = .ok (.iconst 1, 1) := by decide +kernel
theorem dX9_aim_38 : decode cX9_aim 38 = .ok (.putfield 136, 3) := by decide +kernel
theorem dX9_aim_41 : decode cX9_aim 41 = .ok (.aload_n 0, 1) := by decide +kernel
theorem dX9_aim_42 : decode cX9_aim 42 = .ok (.getfield 10, 3) := by decide +kernel
theorem dX9_aim_45 : decode cX9_aim 45 = .ok (.invokevirtual 93, 3) := by decide +kernel
theorem dX9_aim_48 : decode cX9_aim 48 = .ok (.aload_n 0, 1) := by decide +kernel
theorem dX9_aim_49 : decode cX9_aim 49 = .ok (.getfield 149, 3) := by decide +kernel
theorem dX9_aim_52 : decode cX9_aim 52 = .ok (.invokestatic 152, 3) := by decide +kernel
theorem dX9_aim_55 : decode cX9_aim 55 = .ok (.ireturn, 1) := by decide +kernel
set_option maxRecDepth 20000 in
theorem ggX9_stone_X9_isStone : GoodIn wsX9_stone wsX9_isStone := goodIn_r _ [10, 3, 11, 24, 25, 26, 27, 28, 29, 30, 31, 32, 33, 34, 35, 36, 37, 42, 43, 44, 45, 46, 47] (by decide +kernel) (by decide +kernel)
set_option maxRecDepth 20000 in
theorem gX9_stone_X9_isStone : GoodIn wsX9_stone (wsV RX9 156 RX9 yX9_isStone wsX9_isStone) := goodIn_app (goodIn_of _ (by decide +kernel)) ggX9_stone_X9_isStone
set_option maxRecDepth 20000 in
theorem ggX9_stone_X9_kindToldOf : GoodIn wsX9_stone wsX9_kindToldOf := goodIn_r _ [14, 15, 16, 9, 17] (by decide +kernel) (by decide +kernel)
set_option maxRecDepth 20000 in
theorem gX9_stone_X9_kindToldOf : GoodIn wsX9_stone (va_wsS RX9 160 yX9_kindToldOf wsX9_kindToldOf) := goodIn_app (goodIn_of _ (by decide +kernel)) ggX9_stone_X9_kindToldOf
set_option maxRecDepth 20000 in
theorem ggX9_stone_X6_behind : GoodIn wsX9_stone wsX6_behind := goodIn_r _ [22, 23, 42, 43, 44, 45, 46, 47] (by decide +kernel) (by decide +kernel)
set_option maxRecDepth 20000 in
theorem gX9_stone_X6_behind : GoodIn wsX9_stone (wsV RX9 163 RX6 yX6_behind wsX6_behind) := goodIn_app (goodIn_of _ (by decide +kernel)) ggX9_stone_X6_behind
theorem dX9_stone_0 : decode cX9_stone 0 = .ok (.aload_n 0, 1) := by decide +kernel
theorem dX9_stone_1 : decode cX9_stone 1 = .ok (.iload_n 1, 1) := by decide +kernel
theorem dX9_stone_2 : decode cX9_stone 2 = .ok (.invokevirtual 156, 3) := by decide +kernel
theorem dX9_stone_5 : decode cX9_stone 5 = .ok (.ifCond .ne 6, 3) := by decide +kernel
theorem dX9_stone_8 : decode cX9_stone 8 = .ok (.bipush (-101), 2) := by decide +kernel
theorem dX9_stone_10 : decode cX9_stone 10 = .ok (.ireturn, 1) := by decide +kernel
theorem dX9_stone_11 : decode cX9_stone 11 = .ok (.iload_n 2, 1) := by decide +kernel
theorem dX9_stone_12 : decode cX9_stone 12 = .ok (.tableswitch 69 0 2 #[28, 40, 49], 28) := by decide +kernel
theorem dX9_stone_40 : decode cX9_stone 40 = .ok (.aload_n 0, 1) := by decide +kernel
theorem dX9_stone_41 : decode cX9_stone 41 = .ok (.getfield 74, 3) := by decide +kernel
theorem dX9_stone_44 : decode cX9_stone 44 = .ok (.getfield 123, 3) := by decide +kernel
theorem dX9_stone_47 : decode cX9_stone 47 = .ok (.iload_n 1, 1) := by decide +kernel
theorem dX9_stone_48 : decode cX9_stone 48 = .ok (.invokestatic 160, 3) := by decide +kernel
theorem dX9_stone_51 : decode cX9_stone 51 = .ok (.ireturn, 1) := by decide +kernel
theorem dX9_stone_52 : decode cX9_stone 52 = .ok (.aload_n 0, 1) := by decide +kernel
theorem dX9_stone_53 : decode cX9_stone 53 = .ok (.getfield 26, 3) := by decide +kernel
theorem dX9_stone_56 : decode cX9_stone 56 = .ok (.iload_n 1, 1) := by decide +kernel
theorem dX9_stone_57 : decode cX9_stone 57 = .ok (.invokevirtual 163, 3) := by decide +kernel
theorem dX9_stone_60 : decode cX9_stone 60 = .ok (.ireturn, 1) := by decide +kernel
theorem dX9_stone_61 : decode cX9_stone 61 = .ok (.aload_n 0, 1) := by decide +kernel
theorem dX9_stone_62 : decode cX9_stone 62 = .ok (.getfield 136, 3) := by decide +kernel
theorem dX9_stone_65 : decode cX9_stone 65 = .ok (.ifCond .eq 14, 3) := by decide +kernel
theorem dX9_stone_68 : decode cX9_stone 68 = .ok (.aload_n 0, 1) := by decide +kernel
theorem dX9_stone_69 : decode cX9_stone 69 = .ok (.getfield 149, 3) := by decide +kernel
theorem dX9_stone_72 : decode cX9_stone 72 = .ok (.iload_n 1, 1) := by decide +kernel
theorem dX9_stone_73 : decode cX9_stone 73 = .ok (.invokestatic 160, 3) := by decide +kernel
theorem dX9_stone_76 : decode cX9_stone 76 = .ok (.goto 4, 3) := by decide +kernel
theorem dX9_stone_79 : decode cX9_stone 79 = .ok (.iconst (-1), 1) := by decide +kernel
theorem dX9_stone_80 : decode cX9_stone 80 = .ok (.ireturn, 1) := by decide +kernel
theorem dX9_stone_81 : decode cX9_stone 81 = .ok (.bipush (-102), 2) := by decide +kernel
theorem dX9_stone_83 : decode cX9_stone 83 = .ok (.ireturn, 1) := by decide +kernel
set_option maxRecDepth 20000 in
theorem ggX9_as_X9_isStone : GoodIn wsX9_as wsX9_isStone := goodIn_r _ [7, 8, 9, 16, 17, 18, 19, 20, 21, 22, 23, 24, 25, 26, 27, 28, 29, 34, 35, 36, 37, 38, 39] (by decide +kernel) (by decide +kernel)
set_option maxRecDepth 20000 in
theorem gX9_as_X9_isStone : GoodIn wsX9_as (wsV RX9 156 RX9 yX9_isStone wsX9_isStone) := goodIn_app (goodIn_of _ (by decide +kernel)) ggX9_as_X9_isStone
set_option maxRecDepth 20000 in
theorem ggX9_as_X9_kindAt : GoodIn wsX9_as wsX9_kindAt := goodIn_r _ [12] (by decide +kernel) (by decide +kernel)
set_option maxRecDepth 20000 in
theorem gX9_as_X9_kindAt : GoodIn wsX9_as (va_wsS RX9 166 yX9_kindAt wsX9_kindAt) := goodIn_app (goodIn_of _ (by decide +kernel)) ggX9_as_X9_kindAt
set_option maxRecDepth 20000 in
theorem ggX9_as_X9_isOfKind : GoodIn wsX9_as wsX9_isOfKind := goodIn_r _ [15] (by decide +kernel) (by decide +kernel)
set_option maxRecDepth 20000 in
theorem gX9_as_X9_isOfKind : GoodIn wsX9_as (va_wsS RX9 169 yX9_isOfKind wsX9_isOfKind) := goodIn_app (goodIn_of _ (by decide +kernel)) ggX9_as_X9_isOfKind
theorem dX9_as_0 : decode cX9_as 0 = .ok (.aload_n 0, 1) := by decide +kernel
theorem dX9_as_1 : decode cX9_as 1 = .ok (.iload_n 1, 1) := by decide +kernel
theorem dX9_as_2 : decode cX9_as 2 = .ok (.invokevirtual 156, 3) := by decide +kernel
theorem dX9_as_5 : decode cX9_as 5 = .ok (.ifCond .ne 6, 3) := by decide +kernel
theorem dX9_as_8 : decode cX9_as 8 = .ok (.bipush (-101), 2) := by decide +kernel
theorem dX9_as_10 : decode cX9_as 10 = .ok (.ireturn, 1) := by decide +kernel
theorem dX9_as_11 : decode cX9_as 11 = .ok (.iload_n 2, 1) := by decide +kernel
theorem dX9_as_12 : decode cX9_as 12 = .ok (.ifCond .lt 8, 3) := by decide +kernel
theorem dX9_as_15 : decode cX9_as 15 = .ok (.iload_n 2, 1) := by decide +kernel
theorem dX9_as_16 : decode cX9_as 16 = .ok (.iconst 3, 1) := by decide +kernel
theorem dX9_as_17 : decode cX9_as 17 = .ok (.if_icmp .le 6, 3) := by decide +kernel
theorem dX9_as_20 : decode cX9_as 20 = .ok (.bipush (-102), 2) := by decide +kernel
theorem dX9_as_22 : decode cX9_as 22 = .ok (.ireturn, 1) := by decide +kernel
theorem dX9_as_23 : decode cX9_as 23 = .ok (.aload_n 0, 1) := by decide +kernel
theorem dX9_as_24 : decode cX9_as 24 = .ok (.getfield 74, 3) := by decide +kernel
theorem dX9_as_27 : decode cX9_as 27 = .ok (.getfield 123, 3) := by decide +kernel
theorem dX9_as_30 : decode cX9_as 30 = .ok (.iload_n 1, 1) := by decide +kernel
theorem dX9_as_31 : decode cX9_as 31 = .ok (.invokestatic 166, 3) := by decide +kernel
theorem dX9_as_34 : decode cX9_as 34 = .ok (.iload_n 2, 1) := by decide +kernel
theorem dX9_as_35 : decode cX9_as 35 = .ok (.invokestatic 169, 3) := by decide +kernel
theorem dX9_as_38 : decode cX9_as 38 = .ok (.ifCond .eq 7, 3) := by decide +kernel
theorem dX9_as_41 : decode cX9_as 41 = .ok (.iload_n 1, 1) := by decide +kernel
theorem dX9_as_42 : decode cX9_as 42 = .ok (.goto 4, 3) := by decide +kernel
theorem dX9_as_45 : decode cX9_as 45 = .ok (.iconst (-1), 1) := by decide +kernel
theorem dX9_as_46 : decode cX9_as 46 = .ok (.ireturn, 1) := by decide +kernel
set_option maxRecDepth 20000 in
theorem ggX9_can_X9_isStone : GoodIn wsX9_can wsX9_isStone := goodIn_r _ [8, 9, 10, 53, 54, 55, 56, 57, 58, 59, 60, 61, 62, 63, 64, 65, 66, 71, 72, 73, 74, 75, 76] (by decide +kernel) (by decide +kernel)
set_option maxRecDepth 20000 in
theorem gX9_can_X9_isStone : GoodIn wsX9_can (wsV RX9 156 RX9 yX9_isStone wsX9_isStone) := goodIn_app (goodIn_of _ (by decide +kernel)) ggX9_can_X9_isStone
set_option maxRecDepth 20000 in
theorem ggX9_can_X3_find : GoodIn wsX9_can wsX3_find := goodIn_r _ [15, 16, 17, 18, 19, 20, 21, 22, 23, 7, 24, 25, 26, 27, 14, 28, 29, 30, 31, 32, 33, 34, 35, 36, 37, 38, 39, 40, 41, 42, 43, 44, 77, 78, 71, 72, 73, 74, 75, 76] (by decide +kernel) (by decide +kernel)
set_option maxRecDepth 20000 in
theorem gX9_can_X3_find : GoodIn wsX9_can (wsV RX9 173 RX3 yX3_find wsX3_find) := goodIn_app (goodIn_of _ (by decide +kernel)) ggX9_can_X3_find
set_option maxRecDepth 20000 in
theorem ggX9_can_X3_has : GoodIn wsX9_can wsX3_has := goodIn_r _ [48, 49, 50, 51, 14, 52, 16, 77, 78] (by decide +kernel) (by decide +kernel)
set_option maxRecDepth 20000 in
theorem gX9_can_X3_has : GoodIn wsX9_can (wsV RX9 176 RX3 yX3_has wsX3_has) := goodIn_app (goodIn_of _ (by decide +kernel)) ggX9_can_X3_has
theorem dX9_can_0 : decode cX9_can 0 = .ok (.aload_n 0, 1) := by decide +kernel
theorem dX9_can_1 : decode cX9_can 1 = .ok (.iload_n 1, 1) := by decide +kernel
theorem dX9_can_2 : decode cX9_can 2 = .ok (.invokevirtual 156, 3) := by decide +kernel
theorem dX9_can_5 : decode cX9_can 5 = .ok (.ifCond .eq 11, 3) := by decide +kernel
theorem dX9_can_8 : decode cX9_can 8 = .ok (.aload_n 0, 1) := by decide +kernel
theorem dX9_can_9 : decode cX9_can 9 = .ok (.iload_n 2, 1) := by decide +kernel
theorem dX9_can_10 : decode cX9_can 10 = .ok (.invokevirtual 156, 3) := by decide +kernel
theorem dX9_can_13 : decode cX9_can 13 = .ok (.ifCond .ne 6, 3) := by decide +kernel
theorem dX9_can_16 : decode cX9_can 16 = .ok (.bipush (-101), 2) := by decide +kernel
theorem dX9_can_18 : decode cX9_can 18 = .ok (.ireturn, 1) := by decide +kernel
theorem dX9_can_19 : decode cX9_can 19 = .ok (.aload_n 0, 1) := by decide +kernel
theorem dX9_can_20 : decode cX9_can 20 = .ok (.getfield 35, 3) := by decide +kernel
theorem dX9_can_23 : decode cX9_can 23 = .ok (.aload_n 0, 1) := by decide +kernel
theorem dX9_can_24 : decode cX9_can 24 = .ok (.getfield 74, 3) := by decide +kernel
theorem dX9_can_27 : decode cX9_can 27 = .ok (.getfield 123, 3) := by decide +kernel
theorem dX9_can_30 : decode cX9_can 30 = .ok (.invokevirtual 173, 3) := by decide +kernel
theorem dX9_can_33 : decode cX9_can 33 = .ok (.aload_n 0, 1) := by decide +kernel
theorem dX9_can_34 : decode cX9_can 34 = .ok (.getfield 35, 3) := by decide +kernel
theorem dX9_can_37 : decode cX9_can 37 = .ok (.iload_n 1, 1) := by decide +kernel
theorem dX9_can_38 : decode cX9_can 38 = .ok (.iload_n 2, 1) := by decide +kernel
theorem dX9_can_39 : decode cX9_can 39 = .ok (.invokevirtual 176, 3) := by decide +kernel
theorem dX9_can_42 : decode cX9_can 42 = .ok (.ifCond .eq 7, 3) := by decide +kernel
theorem dX9_can_45 : decode cX9_can 45 = .ok (.iconst 1, 1) := by decide +kernel
theorem dX9_can_46 : decode cX9_can 46 = .ok (.goto 4, 3) := by decide +kernel
theorem dX9_can_49 : decode cX9_can 49 = .ok (.iconst 0, 1) := by decide +kernel
theorem dX9_can_50 : decode cX9_can 50 = .ok (.ireturn, 1) := by decide +kernel
set_option maxRecDepth 20000 in
theorem ggX9_move_X9_isStone : GoodIn wsX9_move wsX9_isStone := goodIn_r _ [9, 10, 11, 66, 67, 68, 69, 70, 71, 72, 73, 74, 75, 76, 77, 78, 79, 84, 85, 86, 87, 88, 89] (by decide +kernel) (by decide +kernel)
set_option maxRecDepth 20000 in
theorem gX9_move_X9_isStone : GoodIn wsX9_move (wsV RX9 156 RX9 yX9_isStone wsX9_isStone) := goodIn_app (goodIn_of _ (by decide +kernel)) ggX9_move_X9_isStone
set_option maxRecDepth 20000 in
theorem ggX9_move_X3_find : GoodIn wsX9_move wsX3_find := goodIn_r _ [16, 17, 18, 19, 20, 21, 22, 23, 24, 8, 25, 26, 27, 28, 15, 29, 30, 31, 32, 33, 34, 35, 36, 37, 38, 39, 40, 41, 42, 43, 44, 45, 90, 91, 84, 85, 86, 87, 88, 89] (by decide +kernel) (by decide +kernel)
set_option maxRecDepth 20000 in
theorem gX9_move_X3_find : GoodIn wsX9_move (wsV RX9 173 RX3 yX3_find wsX3_find) := goodIn_app (goodIn_of _ (by decide +kernel)) ggX9_move_X3_find
set_option maxRecDepth 20000 in
theorem ggX9_move_X3_has : GoodIn wsX9_move wsX3_has := goodIn_r _ [49, 50, 51, 52, 15, 53, 17, 90, 91] (by decide +kernel) (by decide +kernel)
set_option maxRecDepth 20000 in
theorem gX9_move_X3_has : GoodIn wsX9_move (wsV RX9 176 RX3 yX3_has wsX3_has) := goodIn_app (goodIn_of _ (by decide +kernel)) ggX9_move_X3_has
set_option maxRecDepth 20000 in
theorem ggX9_move_X1_make : GoodIn wsX9_move wsX1_make := goodIn_r _ [58, 59, 60, 61, 62, 63, 8, 64, 65, 24, 25, 80, 81, 82, 83] (by decide +kernel) (by decide +kernel)
set_option maxRecDepth 20000 in
theorem gX9_move_X1_make : GoodIn wsX9_move (wsV RX9 182 RX1 yX1_make wsX1_make) := goodIn_app (goodIn_of _ (by decide +kernel)) ggX9_move_X1_make
theorem dX9_move_0 : decode cX9_move 0 = .ok (.aload_n 0, 1) := by decide +kernel
theorem dX9_move_1 : decode cX9_move 1 = .ok (.iload_n 1, 1) := by decide +kernel
theorem dX9_move_2 : decode cX9_move 2 = .ok (.invokevirtual 156, 3) := by decide +kernel
theorem dX9_move_5 : decode cX9_move 5 = .ok (.ifCond .eq 11, 3) := by decide +kernel
theorem dX9_move_8 : decode cX9_move 8 = .ok (.aload_n 0, 1) := by decide +kernel
theorem dX9_move_9 : decode cX9_move 9 = .ok (.iload_n 2, 1) := by decide +kernel
theorem dX9_move_10 : decode cX9_move 10 = .ok (.invokevirtual 156, 3) := by decide +kernel
theorem dX9_move_13 : decode cX9_move 13 = .ok (.ifCond .ne 6, 3) := by decide +kernel
theorem dX9_move_16 : decode cX9_move 16 = .ok (.bipush (-101), 2) := by decide +kernel
theorem dX9_move_18 : decode cX9_move 18 = .ok (.ireturn, 1) := by decide +kernel
theorem dX9_move_19 : decode cX9_move 19 = .ok (.aload_n 0, 1) := by decide +kernel
theorem dX9_move_20 : decode cX9_move 20 = .ok (.getfield 35, 3) := by decide +kernel
theorem dX9_move_23 : decode cX9_move 23 = .ok (.aload_n 0, 1) := by decide +kernel
theorem dX9_move_24 : decode cX9_move 24 = .ok (.getfield 74, 3) := by decide +kernel
theorem dX9_move_27 : decode cX9_move 27 = .ok (.getfield 123, 3) := by decide +kernel
theorem dX9_move_30 : decode cX9_move 30 = .ok (.invokevirtual 173, 3) := by decide +kernel
theorem dX9_move_33 : decode cX9_move 33 = .ok (.aload_n 0, 1) := by decide +kernel
theorem dX9_move_34 : decode cX9_move 34 = .ok (.getfield 35, 3) := by decide +kernel
theorem dX9_move_37 : decode cX9_move 37 = .ok (.iload_n 1, 1) := by decide +kernel
theorem dX9_move_38 : decode cX9_move 38 = .ok (.iload_n 2, 1) := by decide +kernel
theorem dX9_move_39 : decode cX9_move 39 = .ok (.invokevirtual 176, 3) := by decide +kernel
theorem dX9_move_42 : decode cX9_move 42 = .ok (.ifCond .ne 6, 3) := by decide +kernel
theorem dX9_move_45 : decode cX9_move 45 = .ok (.bipush (-103), 2) := by decide +kernel
theorem dX9_move_47 : decode cX9_move 47 = .ok (.ireturn, 1) := by decide +kernel
theorem dX9_move_48 : decode cX9_move 48 = .ok (.aload_n 0, 1) := by decide +kernel
theorem dX9_move_49 : decode cX9_move 49 = .ok (.getfield 74, 3) := by decide +kernel
theorem dX9_move_52 : decode cX9_move 52 = .ok (.getfield 179, 3) := by decide +kernel
theorem dX9_move_55 : decode cX9_move 55 = .ok (.bipush 60, 2) := by decide +kernel
theorem dX9_move_57 : decode cX9_move 57 = .ok (.if_icmp .lt 6, 3) := by decide +kernel
theorem dX9_move_60 : decode cX9_move 60 = .ok (.bipush (-104), 2) := by decide +kernel
theorem dX9_move_62 : decode cX9_move 62 = .ok (.ireturn, 1) := by decide +kernel
theorem dX9_move_63 : decode cX9_move 63 = .ok (.aload_n 0, 1) := by decide +kernel
theorem dX9_move_64 : decode cX9_move 64 = .ok (.getfield 74, 3) := by decide +kernel
theorem dX9_move_67 : decode cX9_move 67 = .ok (.iload_n 1, 1) := by decide +kernel
theorem dX9_move_68 : decode cX9_move 68 = .ok (.iload_n 2, 1) := by decide +kernel
theorem dX9_move_69 : decode cX9_move 69 = .ok (.invokevirtual 182, 3) := by decide +kernel
theorem dX9_move_72 : decode cX9_move 72 = .ok (.aload_n 0, 1) := by decide +kernel
theorem dX9_move_73 : decode cX9_move 73 = .ok (.getfield 74, 3) := by decide +kernel
theorem dX9_move_76 : decode cX9_move 76 = .ok (.getfield 179, 3) := by decide +kernel
theorem dX9_move_79 : decode cX9_move 79 = .ok (.ireturn, 1) := by decide +kernel
set_option maxRecDepth 20000 in
theorem ggX9_back_X1_unmake : GoodIn wsX9_back wsX1_unmake := goodIn_r _ [7, 8, 9, 10, 11, 12, 13, 14, 15, 16, 17, 32, 33, 34, 35] (by decide +kernel) (by decide +kernel)
set_option maxRecDepth 20000 in
theorem gX9_back_X1_unmake : GoodIn wsX9_back (wsV RX9 185 RX1 yX1_unmake wsX1_unmake) := goodIn_app (goodIn_of _ (by decide +kernel)) ggX9_back_X1_unmake
theorem dX9_back_0 : decode cX9_back 0 = .ok (.aload_n 0, 1) := by decide +kernel
theorem dX9_back_1 : decode cX9_back 1 = .ok (.getfield 74, 3) := by decide +kernel
theorem dX9_back_4 : decode cX9_back 4 = .ok (.getfield 179, 3) := by decide +kernel
theorem dX9_back_7 : decode cX9_back 7 = .ok (.ifCond .ne 6, 3) := by decide +kernel
theorem dX9_back_10 : decode cX9_back 10 = .ok (.bipush (-103), 2) := by decide +kernel
theorem dX9_back_12 : decode cX9_back 12 = .ok (.ireturn, 1) := by decide +kernel
theorem dX9_back_13 : decode cX9_back 13 = .ok (.aload_n 0, 1) := by decide +kernel
theorem dX9_back_14 : decode cX9_back 14 = .ok (.getfield 74, 3) := by decide +kernel
theorem dX9_back_17 : decode cX9_back 17 = .ok (.invokevirtual 185, 3) := by decide +kernel
theorem dX9_back_20 : decode cX9_back 20 = .ok (.aload_n 0, 1) := by decide +kernel
theorem dX9_back_21 : decode cX9_back 21 = .ok (.getfield 74, 3) := by decide +kernel
theorem dX9_back_24 : decode cX9_back 24 = .ok (.getfield 179, 3) := by decide +kernel
theorem dX9_back_27 : decode cX9_back 27 = .ok (.ireturn, 1) := by decide +kernel
set_option maxRecDepth 20000 in
theorem ggX9_many_X9_noStones : GoodIn wsX9_many wsX9_noStones := goodIn_r _ [8, 9, 10, 56, 57, 58, 59, 60, 61, 62, 63, 64, 65, 66, 67, 68, 69, 74, 75, 76, 77, 78, 79] (by decide +kernel) (by decide +kernel)
set_option maxRecDepth 20000 in
theorem gX9_many_X9_noStones : GoodIn wsX9_many (wsV RX9 142 RX9 yX9_noStones wsX9_noStones) := goodIn_app (goodIn_of _ (by decide +kernel)) ggX9_many_X9_noStones
set_option maxRecDepth 20000 in
theorem ggX9_many_X3_find : GoodIn wsX9_many wsX3_find := goodIn_r _ [15, 16, 17, 18, 19, 20, 21, 22, 23, 7, 24, 25, 26, 27, 14, 28, 29, 30, 31, 32, 33, 34, 35, 36, 37, 38, 39, 40, 41, 42, 43, 44, 80, 81, 74, 75, 76, 77, 78, 79] (by decide +kernel) (by decide +kernel)
set_option maxRecDepth 20000 in
theorem gX9_many_X3_find : GoodIn wsX9_many (wsV RX9 173 RX3 yX3_find wsX3_find) := goodIn_app (goodIn_of _ (by decide +kernel)) ggX9_many_X3_find
set_option maxRecDepth 20000 in
theorem ggX9_many_X3_total : GoodIn wsX9_many wsX3_total := goodIn_r _ [48, 16, 49, 50, 51, 52, 53, 54, 55, 80, 81] (by decide +kernel) (by decide +kernel)
set_option maxRecDepth 20000 in
theorem gX9_many_X3_total : GoodIn wsX9_many (wsV RX9 188 RX3 yX3_total wsX3_total) := goodIn_app (goodIn_of _ (by decide +kernel)) ggX9_many_X3_total
theorem dX9_many_0 : decode cX9_many 0 = .ok (.aload_n 0, 1) := by decide +kernel
theorem dX9_many_1 : decode cX9_many 1 = .ok (.invokevirtual 142, 3) := by decide +kernel
theorem dX9_many_4 : decode cX9_many 4 = .ok (.ifCond .eq 6, 3) := by decide +kernel
theorem dX9_many_7 : decode cX9_many 7 = .ok (.bipush (-103), 2) := by decide +kernel
theorem dX9_many_9 : decode cX9_many 9 = .ok (.ireturn, 1) := by decide +kernel
theorem dX9_many_10 : decode cX9_many 10 = .ok (.aload_n 0, 1) := by decide +kernel
theorem dX9_many_11 : decode cX9_many 11 = .ok (.getfield 35, 3) := by decide +kernel
theorem dX9_many_14 : decode cX9_many 14 = .ok (.aload_n 0, 1) := by decide +kernel
theorem dX9_many_15 : decode cX9_many 15 = .ok (.getfield 74, 3) := by decide +kernel
theorem dX9_many_18 : decode cX9_many 18 = .ok (.getfield 123, 3) := by decide +kernel
theorem dX9_many_21 : decode cX9_many 21 = .ok (.invokevirtual 173, 3) := by decide +kernel
theorem dX9_many_24 : decode cX9_many 24 = .ok (.aload_n 0, 1) := by decide +kernel
theorem dX9_many_25 : decode cX9_many 25 = .ok (.getfield 35, 3) := by decide +kernel
theorem dX9_many_28 : decode cX9_many 28 = .ok (.invokevirtual 188, 3) := by decide +kernel
theorem dX9_many_31 : decode cX9_many 31 = .ok (.ireturn, 1) := by decide +kernel
set_option maxRecDepth 20000 in
theorem ggX9_nth_X9_noStones : GoodIn wsX9_nth wsX9_noStones := goodIn_r _ [8, 9, 10, 57, 58, 59, 60, 61, 62, 63, 64, 65, 66, 67, 68, 69, 70, 75, 76, 77, 78, 79, 80] (by decide +kernel) (by decide +kernel)
set_option maxRecDepth 20000 in
theorem gX9_nth_X9_noStones : GoodIn wsX9_nth (wsV RX9 142 RX9 yX9_noStones wsX9_noStones) := goodIn_app (goodIn_of _ (by decide +kernel)) ggX9_nth_X9_noStones
set_option maxRecDepth 20000 in
theorem ggX9_nth_X3_find : GoodIn wsX9_nth wsX3_find := goodIn_r _ [15, 16, 17, 18, 19, 20, 21, 22, 23, 7, 24, 25, 26, 27, 14, 28, 29, 30, 31, 32, 33, 34, 35, 36, 37, 38, 39, 40, 41, 42, 43, 44, 81, 82, 75, 76, 77, 78, 79, 80] (by decide +kernel) (by decide +kernel)
set_option maxRecDepth 20000 in
theorem gX9_nth_X3_find : GoodIn wsX9_nth (wsV RX9 173 RX3 yX3_find wsX3_find) := goodIn_app (goodIn_of _ (by decide +kernel)) ggX9_nth_X3_find
set_option maxRecDepth 20000 in
theorem ggX9_nth_X3_told : GoodIn wsX9_nth wsX3_told := goodIn_r _ [48, 17, 18, 49, 50, 51, 14, 52, 53, 54, 55, 56, 16, 81, 82, 75, 76, 77, 78, 79, 80] (by decide +kernel) (by decide +kernel)
set_option maxRecDepth 20000 in
theorem gX9_nth_X3_told : GoodIn wsX9_nth (wsV RX9 192 RX3 yX3_told wsX3_told) := goodIn_app (goodIn_of _ (by decide +kernel)) ggX9_nth_X3_told
theorem dX9_nth_0 : decode cX9_nth 0 = .ok (.aload_n 0, 1) := by decide +kernel
theorem dX9_nth_1 : decode cX9_nth 1 = .ok (.invokevirtual 142, 3) := by decide +kernel
theorem dX9_nth_4 : decode cX9_nth 4 = .ok (.ifCond .eq 6, 3) := by decide +kernel
theorem dX9_nth_7 : decode cX9_nth 7 = .ok (.bipush (-103), 2) := by decide +kernel
theorem dX9_nth_9 : decode cX9_nth 9 = .ok (.ireturn, 1) := by decide +kernel
theorem dX9_nth_10 : decode cX9_nth 10 = .ok (.iload_n 1, 1) := by decide +kernel
theorem dX9_nth_11 : decode cX9_nth 11 = .ok (.ifCond .lt 9, 3) := by decide +kernel
theorem dX9_nth_14 : decode cX9_nth 14 = .ok (.iload_n 1, 1) := by decide +kernel
theorem dX9_nth_15 : decode cX9_nth 15 = .ok (.bipush 63, 2) := by decide +kernel
theorem dX9_nth_17 : decode cX9_nth 17 = .ok (.if_icmp .le 6, 3) := by decide +kernel
theorem dX9_nth_20 : decode cX9_nth 20 = .ok (.bipush (-102), 2) := by decide +kernel
theorem dX9_nth_22 : decode cX9_nth 22 = .ok (.ireturn, 1) := by decide +kernel
theorem dX9_nth_23 : decode cX9_nth 23 = .ok (.aload_n 0, 1) := by decide +kernel
theorem dX9_nth_24 : decode cX9_nth 24 = .ok (.getfield 35, 3) := by decide +kernel
theorem dX9_nth_27 : decode cX9_nth 27 = .ok (.aload_n 0, 1) := by decide +kernel
theorem dX9_nth_28 : decode cX9_nth 28 = .ok (.getfield 74, 3) := by decide +kernel
theorem dX9_nth_31 : decode cX9_nth 31 = .ok (.getfield 123, 3) := by decide +kernel
theorem dX9_nth_34 : decode cX9_nth 34 = .ok (.invokevirtual 173, 3) := by decide +kernel
theorem dX9_nth_37 : decode cX9_nth 37 = .ok (.aload_n 0, 1) := by decide +kernel
theorem dX9_nth_38 : decode cX9_nth 38 = .ok (.getfield 35, 3) := by decide +kernel
theorem dX9_nth_41 : decode cX9_nth 41 = .ok (.iload_n 1, 1) := by decide +kernel
theorem dX9_nth_42 : decode cX9_nth 42 = .ok (.invokevirtual 192, 3) := by decide +kernel
theorem dX9_nth_45 : decode cX9_nth 45 = .ok (.ireturn, 1) := by decide +kernel
set_option maxRecDepth 20000 in
theorem ggX9_fewest_X8_lookFrom : GoodIn wsX9_fewest wsX8_lookFrom := goodIn_r _ [10, 11, 12, 13, 14, 15, 16, 17, 18, 19, 20, 21, 22, 23, 24, 25, 26, 27, 28, 29, 30, 31, 32, 33, 34, 35, 36, 9, 37, 38, 39, 40, 41, 42, 43, 44, 45, 46, 47, 48, 49, 50, 51, 52, 53, 54, 55, 56, 57, 58, 59, 60, 61, 62, 63, 64, 65, 66, 67, 68, 69, 70, 71, 72, 73, 74, 75, 76, 77, 78, 79, 80, 81, 82, 83, 84, 85, 86, 87, 88, 89, 90, 91, 92, 93, 94, 95, 96, 97, 98, 99, 100, 101, 102, 103, 126, 127, 128, 129, 130, 131, 132, 133, 134, 135, 136, 137, 138, 139, 140, 141, 142, 143, 144, 145, 146, 147, 148, 149, 150, 151] (by decide +kernel) (by decide +kernel)
set_option maxRecDepth 20000 in
theorem gX9_fewest_X8_lookFrom : GoodIn wsX9_fewest (wsV RX9 195 RX8 yX8_lookFrom wsX8_lookFrom) := goodIn_app (goodIn_of _ (by decide +kernel)) ggX9_fewest_X8_lookFrom
set_option maxRecDepth 20000 in
theorem ggX9_fewest_X8_stepsTo : GoodIn wsX9_fewest wsX8_stepsTo := goodIn_r _ [107, 14, 13, 25, 26, 27, 28, 29, 30, 31, 32, 33, 126, 127, 128, 129, 130, 131, 132, 133, 134, 135, 136, 137, 138, 139, 140, 141, 142, 143] (by decide +kernel) (by decide +kernel)
set_option maxRecDepth 20000 in
theorem gX9_fewest_X8_stepsTo : GoodIn wsX9_fewest (wsV RX9 198 RX8 yX8_stepsTo wsX8_stepsTo) := goodIn_app (goodIn_of _ (by decide +kernel)) ggX9_fewest_X8_stepsTo
theorem dX9_fewest_0 : decode cX9_fewest 0 = .ok (.aload_n 0, 1) := by decide +kernel
theorem dX9_fewest_1 : decode cX9_fewest 1 = .ok (.getfield 136, 3) := by decide +kernel
theorem dX9_fewest_4 : decode cX9_fewest 4 = .ok (.ifCond .ne 6, 3) := by decide +kernel
theorem dX9_fewest_7 : decode cX9_fewest 7 = .ok (.bipush (-103), 2) := by decide +kernel
theorem dX9_fewest_9 : decode cX9_fewest 9 = .ok (.ireturn, 1) := by decide +kernel
theorem dX9_fewest_10 : decode cX9_fewest 10 = .ok (.aload_n 0, 1) := by decide +kernel
theorem dX9_fewest_11 : decode cX9_fewest 11 = .ok (.getfield 51, 3) := by decide +kernel
theorem dX9_fewest_14 : decode cX9_fewest 14 = .ok (.aload_n 0, 1) := by decide +kernel
theorem dX9_fewest_15 : decode cX9_fewest 15 = .ok (.getfield 74, 3) := by decide +kernel
theorem dX9_fewest_18 : decode cX9_fewest 18 = .ok (.getfield 123, 3) := by decide +kernel
theorem dX9_fewest_21 : decode cX9_fewest 21 = .ok (.invokevirtual 195, 3) := by decide +kernel
theorem dX9_fewest_24 : decode cX9_fewest 24 = .ok (.aload_n 0, 1) := by decide +kernel
theorem dX9_fewest_25 : decode cX9_fewest 25 = .ok (.getfield 51, 3) := by decide +kernel
theorem dX9_fewest_28 : decode cX9_fewest 28 = .ok (.aload_n 0, 1) := by decide +kernel
theorem dX9_fewest_29 : decode cX9_fewest 29 = .ok (.getfield 149, 3) := by decide +kernel
theorem dX9_fewest_32 : decode cX9_fewest 32 = .ok (.invokevirtual 198, 3) := by decide +kernel
theorem dX9_fewest_35 : decode cX9_fewest 35 = .ok (.ireturn, 1) := by decide +kernel
set_option maxRecDepth 20000 in
theorem ggX9_ways_X8_lookFrom : GoodIn wsX9_ways wsX8_lookFrom := goodIn_r _ [11, 12, 13, 14, 15, 16, 17, 18, 19, 20, 21, 22, 23, 24, 25, 26, 27, 28, 29, 30, 31, 32, 33, 34, 35, 36, 37, 10, 38, 39, 40, 41, 42, 43, 44, 45, 46, 47, 48, 49, 50, 51, 52, 53, 54, 55, 56, 57, 58, 59, 60, 61, 62, 63, 64, 65, 66, 67, 68, 69, 70, 71, 72, 73, 74, 75, 76, 77, 78, 79, 80, 81, 82, 83, 84, 85, 86, 87, 88, 89, 90, 91, 92, 93, 94, 95, 96, 97, 98, 99, 100, 101, 102, 103, 104, 127, 128, 129, 130, 131, 132, 133, 134, 135, 136, 137, 138, 139, 140, 141, 142, 143, 144, 145, 146, 147, 148, 149, 150, 151, 152] (by decide +kernel) (by decide +kernel)
set_option maxRecDepth 20000 in
theorem gX9_ways_X8_lookFrom : GoodIn wsX9_ways (wsV RX9 195 RX8 yX8_lookFrom wsX8_lookFrom) := goodIn_app (goodIn_of _ (by decide +kernel)) ggX9_ways_X8_lookFrom
set_option maxRecDepth 20000 in
theorem ggX9_ways_X8_waysTo : GoodIn wsX9_ways wsX8_waysTo := goodIn_r _ [108, 15, 14, 20, 26, 27, 28, 29, 30, 31, 32, 33, 34, 127, 128, 129, 130, 131, 132, 133, 134, 135, 136, 137, 138, 139, 140, 141, 142, 143, 144] (by decide +kernel) (by decide +kernel)
set_option maxRecDepth 20000 in
theorem gX9_ways_X8_waysTo : GoodIn wsX9_ways (wsV RX9 203 RX8 yX8_waysTo wsX8_waysTo) := goodIn_app (goodIn_of _ (by decide +kernel)) ggX9_ways_X8_waysTo
theorem dX9_ways_0 : decode cX9_ways 0 = .ok (.aload_n 0, 1) := by decide +kernel
theorem dX9_ways_1 : decode cX9_ways 1 = .ok (.getfield 136, 3) := by decide +kernel
theorem dX9_ways_4 : decode cX9_ways 4 = .ok (.ifCond .ne 7, 3) := by decide +kernel
theorem dX9_ways_7 : decode cX9_ways 7 = .ok (.ldc2_w 201, 3) := by decide +kernel
theorem dX9_ways_10 : decode cX9_ways 10 = .ok (.lreturn, 1) := by decide +kernel
theorem dX9_ways_11 : decode cX9_ways 11 = .ok (.aload_n 0, 1) := by decide +kernel
theorem dX9_ways_12 : decode cX9_ways 12 = .ok (.getfield 51, 3) := by decide +kernel
theorem dX9_ways_15 : decode cX9_ways 15 = .ok (.aload_n 0, 1) := by decide +kernel
theorem dX9_ways_16 : decode cX9_ways 16 = .ok (.getfield 74, 3) := by decide +kernel
theorem dX9_ways_19 : decode cX9_ways 19 = .ok (.getfield 123, 3) := by decide +kernel
theorem dX9_ways_22 : decode cX9_ways 22 = .ok (.invokevirtual 195, 3) := by decide +kernel
theorem dX9_ways_25 : decode cX9_ways 25 = .ok (.aload_n 0, 1) := by decide +kernel
theorem dX9_ways_26 : decode cX9_ways 26 = .ok (.getfield 51, 3) := by decide +kernel
theorem dX9_ways_29 : decode cX9_ways 29 = .ok (.aload_n 0, 1) := by decide +kernel
theorem dX9_ways_30 : decode cX9_ways 30 = .ok (.getfield 149, 3) := by decide +kernel
theorem dX9_ways_33 : decode cX9_ways 33 = .ok (.invokevirtual 203, 3) := by decide +kernel
theorem dX9_ways_36 : decode cX9_ways 36 = .ok (.lreturn, 1) := by decide +kernel
set_option maxRecDepth 20000 in
theorem ggX9_by_X8_lookFrom : GoodIn wsX9_by wsX8_lookFrom := goodIn_r _ [10, 11, 12, 13, 14, 15, 16, 17, 18, 19, 20, 21, 22, 23, 24, 25, 26, 27, 28, 29, 30, 31, 32, 33, 34, 35, 36, 9, 37, 38, 39, 40, 41, 42, 43, 44, 45, 46, 47, 48, 49, 50, 51, 52, 53, 54, 55, 56, 57, 58, 59, 60, 61, 62, 63, 64, 65, 66, 67, 68, 69, 70, 71, 72, 73, 74, 75, 76, 77, 78, 79, 80, 81, 82, 83, 84, 85, 86, 87, 88, 89, 90, 91, 92, 93, 94, 95, 96, 97, 98, 99, 100, 101, 102, 103, 126, 127, 128, 129, 130, 131, 132, 133, 134, 135, 136, 137, 138, 139, 140, 141, 142, 143, 144, 145, 146, 147, 148, 149, 150, 151] (by decide +kernel) (by decide +kernel)
set_option maxRecDepth 20000 in
theorem gX9_by_X8_lookFrom : GoodIn wsX9_by (wsV RX9 195 RX8 yX8_lookFrom wsX8_lookFrom) := goodIn_app (goodIn_of _ (by decide +kernel)) ggX9_by_X8_lookFrom
set_option maxRecDepth 20000 in
theorem ggX9_by_X8_firstMoveTo : GoodIn wsX9_by wsX8_firstMoveTo := goodIn_r _ [107, 14, 13, 38, 25, 26, 27, 28, 29, 30, 31, 32, 33, 126, 127, 128, 129, 130, 131, 132, 133, 134, 135, 136, 137, 138, 139, 140, 141, 142, 143] (by decide +kernel) (by decide +kernel)
set_option maxRecDepth 20000 in
theorem gX9_by_X8_firstMoveTo : GoodIn wsX9_by (wsV RX9 207 RX8 yX8_firstMoveTo wsX8_firstMoveTo) := goodIn_app (goodIn_of _ (by decide +kernel)) ggX9_by_X8_firstMoveTo
theorem dX9_by_0 : decode cX9_by 0 = .ok (.aload_n 0, 1) := by decide +kernel
theorem dX9_by_1 : decode cX9_by 1 = .ok (.getfield 136, 3) := by decide +kernel
theorem dX9_by_4 : decode cX9_by 4 = .ok (.ifCond .ne 6, 3) := by decide +kernel
theorem dX9_by_7 : decode cX9_by 7 = .ok (.bipush (-103), 2) := by decide +kernel
theorem dX9_by_9 : decode cX9_by 9 = .ok (.ireturn, 1) := by decide +kernel
theorem dX9_by_10 : decode cX9_by 10 = .ok (.aload_n 0, 1) := by decide +kernel
theorem dX9_by_11 : decode cX9_by 11 = .ok (.getfield 51, 3) := by decide +kernel
theorem dX9_by_14 : decode cX9_by 14 = .ok (.aload_n 0, 1) := by decide +kernel
theorem dX9_by_15 : decode cX9_by 15 = .ok (.getfield 74, 3) := by decide +kernel
theorem dX9_by_18 : decode cX9_by 18 = .ok (.getfield 123, 3) := by decide +kernel
theorem dX9_by_21 : decode cX9_by 21 = .ok (.invokevirtual 195, 3) := by decide +kernel
theorem dX9_by_24 : decode cX9_by 24 = .ok (.aload_n 0, 1) := by decide +kernel
theorem dX9_by_25 : decode cX9_by 25 = .ok (.getfield 51, 3) := by decide +kernel
theorem dX9_by_28 : decode cX9_by 28 = .ok (.aload_n 0, 1) := by decide +kernel
theorem dX9_by_29 : decode cX9_by 29 = .ok (.getfield 149, 3) := by decide +kernel
theorem dX9_by_32 : decode cX9_by 32 = .ok (.invokevirtual 207, 3) := by decide +kernel
theorem dX9_by_35 : decode cX9_by 35 = .ok (.ireturn, 1) := by decide +kernel
set_option maxRecDepth 20000 in
theorem ggX9_reach_X9_noStones : GoodIn wsX9_reach wsX9_noStones := goodIn_r _ [11, 12, 13, 111, 112, 113, 114, 115, 116, 117, 118, 119, 120, 121, 122, 123, 124, 142, 143, 144, 145, 146, 147] (by decide +kernel) (by decide +kernel)
set_option maxRecDepth 20000 in
theorem gX9_reach_X9_noStones : GoodIn wsX9_reach (wsV RX9 142 RX9 yX9_noStones wsX9_noStones) := goodIn_app (goodIn_of _ (by decide +kernel)) ggX9_reach_X9_noStones
set_option maxRecDepth 20000 in
theorem ggX9_reach_X8_lookFrom : GoodIn wsX9_reach wsX8_lookFrom := goodIn_r _ [18, 19, 20, 21, 22, 23, 24, 25, 26, 27, 28, 29, 30, 10, 31, 32, 33, 34, 35, 36, 37, 38, 39, 40, 41, 42, 43, 17, 44, 45, 46, 47, 48, 49, 50, 51, 52, 53, 54, 55, 56, 57, 58, 59, 60, 61, 62, 63, 64, 65, 66, 67, 68, 69, 70, 71, 72, 73, 74, 75, 76, 77, 78, 79, 80, 81, 82, 83, 84, 85, 86, 87, 88, 89, 90, 91, 92, 93, 94, 95, 96, 97, 98, 99, 100, 101, 102, 103, 104, 105, 106, 107, 108, 109, 110, 129, 130, 131, 132, 133, 134, 135, 136, 137, 138, 139, 140, 141, 148, 149, 150, 151, 152, 142, 143, 144, 145, 146, 147, 153, 154] (by decide +kernel) (by decide +kernel)
set_option maxRecDepth 20000 in
theorem gX9_reach_X8_lookFrom : GoodIn wsX9_reach (wsV RX9 195 RX8 yX8_lookFrom wsX8_lookFrom) := goodIn_app (goodIn_of _ (by decide +kernel)) ggX9_reach_X8_lookFrom
theorem dX9_reach_0 : decode cX9_reach 0 = .ok (.aload_n 0, 1) := by decide +kernel
theorem dX9_reach_1 : decode cX9_reach 1 = .ok (.invokevirtual 142, 3) := by decide +kernel
theorem dX9_reach_4 : decode cX9_reach 4 = .ok (.ifCond .eq 6, 3) := by decide +kernel
theorem dX9_reach_7 : decode cX9_reach 7 = .ok (.bipush (-103), 2) := by decide +kernel
theorem dX9_reach_9 : decode cX9_reach 9 = .ok (.ireturn, 1) := by decide +kernel
theorem dX9_reach_10 : decode cX9_reach 10 = .ok (.iload_n 1, 1) := by decide +kernel
theorem dX9_reach_11 : decode cX9_reach 11 = .ok (.ifCond .lt 8, 3) := by decide +kernel
theorem dX9_reach_14 : decode cX9_reach 14 = .ok (.iload_n 1, 1) := by decide +kernel
theorem dX9_reach_15 : decode cX9_reach 15 = .ok (.iconst 2, 1) := by decide +kernel
theorem dX9_reach_16 : decode cX9_reach 16 = .ok (.if_icmp .le 6, 3) := by decide +kernel
theorem dX9_reach_19 : decode cX9_reach 19 = .ok (.bipush (-102), 2) := by decide +kernel
theorem dX9_reach_21 : decode cX9_reach 21 = .ok (.ireturn, 1) := by decide +kernel
theorem dX9_reach_22 : decode cX9_reach 22 = .ok (.aload_n 0, 1) := by decide +kernel
theorem dX9_reach_23 : decode cX9_reach 23 = .ok (.getfield 51, 3) := by decide +kernel
theorem dX9_reach_26 : decode cX9_reach 26 = .ok (.aload_n 0, 1) := by decide +kernel
theorem dX9_reach_27 : decode cX9_reach 27 = .ok (.getfield 74, 3) := by decide +kernel
theorem dX9_reach_30 : decode cX9_reach 30 = .ok (.getfield 123, 3) := by decide +kernel
theorem dX9_reach_33 : decode cX9_reach 33 = .ok (.invokevirtual 195, 3) := by decide +kernel
theorem dX9_reach_36 : decode cX9_reach 36 = .ok (.iload_n 1, 1) := by decide +kernel
theorem dX9_reach_37 : decode cX9_reach 37 = .ok (.ifCond .ne 11, 3) := by decide +kernel
theorem dX9_reach_40 : decode cX9_reach 40 = .ok (.aload_n 0, 1) := by decide +kernel
theorem dX9_reach_41 : decode cX9_reach 41 = .ok (.getfield 51, 3) := by decide +kernel
theorem dX9_reach_44 : decode cX9_reach 44 = .ok (.getfield 210, 3) := by decide +kernel
theorem dX9_reach_47 : decode cX9_reach 47 = .ok (.ireturn, 1) := by decide +kernel
theorem dX9_reach_48 : decode cX9_reach 48 = .ok (.iload_n 1, 1) := by decide +kernel
theorem dX9_reach_49 : decode cX9_reach 49 = .ok (.iconst 1, 1) := by decide +kernel
theorem dX9_reach_50 : decode cX9_reach 50 = .ok (.if_icmp .ne 13, 3) := by decide +kernel
theorem dX9_reach_53 : decode cX9_reach 53 = .ok (.aload_n 0, 1) := by decide +kernel
theorem dX9_reach_54 : decode cX9_reach 54 = .ok (.getfield 51, 3) := by decide +kernel
theorem dX9_reach_57 : decode cX9_reach 57 = .ok (.getfield 213, 3) := by decide +kernel
theorem dX9_reach_60 : decode cX9_reach 60 = .ok (.goto 10, 3) := by decide +kernel
theorem dX9_reach_63 : decode cX9_reach 63 = .ok (.aload_n 0, 1) := by decide +kernel
theorem dX9_reach_64 : decode cX9_reach 64 = .ok (.getfield 51, 3) := by decide +kernel
theorem dX9_reach_67 : decode cX9_reach 67 = .ok (.getfield 216, 3) := by decide +kernel
theorem dX9_reach_70 : decode cX9_reach 70 = .ok (.ireturn, 1) := by decide +kernel
set_option maxRecDepth 20000 in
theorem ggX9_longest_X9_isEnding : GoodIn wsX9_longest wsX9_isEnding := goodIn_r _ [8, 9, 10, 2, 3, 11, 12, 13, 7, 14, 15, 16, 17, 18, 19, 20, 21, 174, 175, 176, 177, 178, 179, 180, 181, 182, 183, 184, 185, 186, 187, 192, 193, 194, 195, 196, 197, 188, 189, 190, 191] (by decide +kernel) (by decide +kernel)
set_option maxRecDepth 20000 in
theorem gX9_longest_X9_isEnding : GoodIn wsX9_longest (wsV RX9 219 RX9 yX9_isEnding wsX9_isEnding) := goodIn_app (goodIn_of _ (by decide +kernel)) ggX9_longest_X9_isEnding
set_option maxRecDepth 20000 in
theorem ggX9_longest_X2_settleFrom : GoodIn wsX9_longest wsX2_settleFrom := goodIn_r _ [26, 27, 28, 29, 30, 31, 32, 33, 34, 35, 36, 37, 38, 39, 40, 41, 42, 43, 44, 45, 46, 47, 48, 49, 50, 51, 52, 7, 53, 54, 55, 56, 57, 58, 59, 60, 61, 62, 63, 64, 65, 66, 67, 68, 69, 70, 71, 72, 73, 74, 75, 76, 77, 78, 79, 80, 81, 82, 83, 84, 85, 86, 20, 21, 87, 88, 89, 90, 91, 92, 93, 94, 95, 96, 97, 98, 99, 100, 101, 102, 103, 104, 105, 106, 107, 108, 109, 110, 111, 112, 113, 114, 115, 116, 117, 118, 119, 120, 121, 19, 122, 123, 124, 125, 126, 127, 128, 129, 25, 130, 131, 132, 133, 134, 135, 136, 137, 138, 139, 140, 141, 142, 143, 144, 145, 146, 147, 148, 149, 150, 151, 152, 153, 154, 155, 156, 157, 158, 159, 160, 161, 162, 163, 164, 165, 166, 167, 168, 169, 170, 171, 172, 198, 199, 200, 201, 202, 203, 204, 205, 206, 207, 208, 209, 210, 211, 212, 213, 214, 215, 216, 217, 218, 219, 220, 221, 222, 223, 224, 192, 193, 194, 195, 196, 197, 225, 226] (by decide +kernel) (by decide +kernel)
set_option maxRecDepth 20000 in
theorem gX9_longest_X2_settleFrom : GoodIn wsX9_longest (wsV RX9 222 RX2 yX2_settleFrom wsX2_settleFrom) := goodIn_app (goodIn_of _ (by decide +kernel)) ggX9_longest_X2_settleFrom
set_option maxRecDepth 20000 in
theorem ggX9_longest_X2_mostMovesFrom : GoodIn wsX9_longest wsX2_mostMovesFrom := goodIn_r _ [161, 153, 154, 162, 55, 56, 57, 58, 59, 60, 61, 62, 163, 164, 25, 165, 198, 199, 200, 201, 202, 203, 204, 205, 206, 220, 221, 222, 223, 224] (by decide +kernel) (by decide +kernel)
set_option maxRecDepth 20000 in
theorem gX9_longest_X2_mostMovesFrom : GoodIn wsX9_longest (wsV RX9 225 RX2 yX2_mostMovesFrom wsX2_mostMovesFrom) := goodIn_app (goodIn_of _ (by decide +kernel)) ggX9_longest_X2_mostMovesFrom
theorem dX9_longest_0 : decode cX9_longest 0 = .ok (.aload_n 0, 1) := by decide +kernel
theorem dX9_longest_1 : decode cX9_longest 1 = .ok (.invokevirtual 219, 3) := by decide +kernel
theorem dX9_longest_4 : decode cX9_longest 4 = .ok (.ifCond .ne 6, 3) := by decide +kernel
theorem dX9_longest_7 : decode cX9_longest 7 = .ok (.bipush (-103), 2) := by decide +kernel
theorem dX9_longest_9 : decode cX9_longest 9 = .ok (.ireturn, 1) := by decide +kernel
theorem dX9_longest_10 : decode cX9_longest 10 = .ok (.aload_n 0, 1) := by decide +kernel
theorem dX9_longest_11 : decode cX9_longest 11 = .ok (.getfield 60, 3) := by decide +kernel
theorem dX9_longest_14 : decode cX9_longest 14 = .ok (.aload_n 0, 1) := by decide +kernel
theorem dX9_longest_15 : decode cX9_longest 15 = .ok (.getfield 74, 3) := by decide +kernel
theorem dX9_longest_18 : decode cX9_longest 18 = .ok (.getfield 123, 3) := by decide +kernel
theorem dX9_longest_21 : decode cX9_longest 21 = .ok (.invokevirtual 222, 3) := by decide +kernel
theorem dX9_longest_24 : decode cX9_longest 24 = .ok (.aload_n 0, 1) := by decide +kernel
theorem dX9_longest_25 : decode cX9_longest 25 = .ok (.getfield 60, 3) := by decide +kernel
theorem dX9_longest_28 : decode cX9_longest 28 = .ok (.aload_n 0, 1) := by decide +kernel
theorem dX9_longest_29 : decode cX9_longest 29 = .ok (.getfield 74, 3) := by decide +kernel
theorem dX9_longest_32 : decode cX9_longest 32 = .ok (.getfield 123, 3) := by decide +kernel
theorem dX9_longest_35 : decode cX9_longest 35 = .ok (.invokevirtual 225, 3) := by decide +kernel
theorem dX9_longest_38 : decode cX9_longest 38 = .ok (.ireturn, 1) := by decide +kernel
set_option maxRecDepth 20000 in
theorem ggX9_game_X9_isEnding : GoodIn wsX9_game wsX9_isEnding := goodIn_r _ [8, 9, 10, 2, 3, 11, 12, 13, 7, 14, 15, 16, 17, 18, 19, 20, 21, 182, 183, 184, 185, 186, 187, 188, 189, 190, 191, 192, 193, 194, 195, 200, 201, 202, 203, 204, 205, 196, 197, 198, 199] (by decide +kernel) (by decide +kernel)
set_option maxRecDepth 20000 in
theorem gX9_game_X9_isEnding : GoodIn wsX9_game (wsV RX9 219 RX9 yX9_isEnding wsX9_isEnding) := goodIn_app (goodIn_of _ (by decide +kernel)) ggX9_game_X9_isEnding
set_option maxRecDepth 20000 in
theorem ggX9_game_X2_settleFrom : GoodIn wsX9_game wsX2_settleFrom := goodIn_r _ [26, 27, 28, 29, 30, 31, 32, 33, 34, 35, 36, 37, 38, 39, 40, 41, 42, 43, 44, 45, 46, 47, 48, 49, 50, 51, 52, 7, 53, 54, 55, 56, 57, 58, 59, 60, 61, 62, 63, 64, 65, 66, 67, 68, 69, 70, 71, 72, 73, 74, 75, 76, 77, 78, 79, 80, 81, 82, 83, 84, 85, 86, 20, 21, 87, 88, 89, 90, 91, 92, 93, 94, 95, 96, 97, 98, 99, 100, 101, 102, 103, 104, 105, 106, 107, 108, 109, 110, 111, 112, 113, 114, 115, 116, 117, 118, 119, 120, 121, 19, 122, 123, 124, 125, 126, 127, 128, 129, 25, 130, 131, 132, 133, 134, 135, 136, 137, 138, 139, 140, 141, 142, 143, 144, 145, 146, 147, 148, 149, 150, 151, 152, 153, 154, 155, 156, 157, 158, 159, 160, 161, 162, 163, 164, 165, 166, 167, 168, 169, 170, 171, 172, 206, 207, 208, 209, 210, 211, 212, 213, 214, 215, 216, 217, 218, 219, 220, 221, 222, 223, 224, 225, 226, 227, 228, 229, 230, 231, 232, 200, 201, 202, 203, 204, 205, 233, 234] (by decide +kernel) (by decide +kernel)
set_option maxRecDepth 20000 in
theorem gX9_game_X2_settleFrom : GoodIn wsX9_game (wsV RX9 222 RX2 yX2_settleFrom wsX2_settleFrom) := goodIn_app (goodIn_of _ (by decide +kernel)) ggX9_game_X2_settleFrom
set_option maxRecDepth 20000 in
theorem ggX9_game_X2_wins : GoodIn wsX9_game wsX2_wins := goodIn_r _ [172, 153, 155, 162, 55, 56, 57, 58, 59, 60, 61, 62, 163, 164, 25, 165, 206, 207, 208, 209, 210, 211, 212, 213, 214, 228, 229, 230, 231, 232] (by decide +kernel) (by decide +kernel)
set_option maxRecDepth 20000 in
theorem gX9_game_X2_wins : GoodIn wsX9_game (wsV RX9 228 RX2 yX2_wins wsX2_wins) := goodIn_app (goodIn_of _ (by decide +kernel)) ggX9_game_X2_wins
set_option maxRecDepth 20000 in
theorem ggX9_game_X2_winningMove : GoodIn wsX9_game wsX2_winningMove := goodIn_r _ [177, 152, 138, 139, 156, 76, 77, 78, 79, 80, 81, 82, 83, 84, 85, 86, 20, 7, 21, 87, 88, 89, 90, 91, 92, 93, 94, 95, 96, 97, 98, 99, 100, 101, 102, 103, 104, 105, 106, 178, 179, 180, 25, 181, 157, 116, 117, 118, 119, 108, 109, 110, 120, 121, 19, 166, 167, 168, 169, 170, 171, 172, 153, 155, 162, 55, 56, 57, 58, 59, 60, 61, 62, 163, 164, 165, 206, 207, 208, 209, 210, 211, 212, 213, 214, 200, 201, 202, 203, 204, 205, 233, 234, 228, 229, 230, 231, 232] (by decide +kernel) (by decide +kernel)
set_option maxRecDepth 20000 in
theorem gX9_game_X2_winningMove : GoodIn wsX9_game (wsV RX9 231 RX2 yX2_winningMove wsX2_winningMove) := goodIn_app (goodIn_of _ (by decide +kernel)) ggX9_game_X2_winningMove
theorem dX9_game_0 : decode cX9_game 0 = .ok (.aload_n 0, 1) := by decide +kernel
theorem dX9_game_1 : decode cX9_game 1 = .ok (.invokevirtual 219, 3) := by decide +kernel
theorem dX9_game_4 : decode cX9_game 4 = .ok (.ifCond .ne 6, 3) := by decide +kernel
theorem dX9_game_7 : decode cX9_game 7 = .ok (.bipush (-103), 2) := by decide +kernel
theorem dX9_game_9 : decode cX9_game 9 = .ok (.ireturn, 1) := by decide +kernel
theorem dX9_game_10 : decode cX9_game 10 = .ok (.iload_n 1, 1) := by decide +kernel
theorem dX9_game_11 : decode cX9_game 11 = .ok (.ifCond .lt 17, 3) := by decide +kernel
theorem dX9_game_14 : decode cX9_game 14 = .ok (.iload_n 1, 1) := by decide +kernel
theorem dX9_game_15 : decode cX9_game 15 = .ok (.iconst 1, 1) := by decide +kernel
theorem dX9_game_16 : decode cX9_game 16 = .ok (.if_icmp .gt 12, 3) := by decide +kernel
theorem dX9_game_19 : decode cX9_game 19 = .ok (.iload_n 2, 1) := by decide +kernel
theorem dX9_game_20 : decode cX9_game 20 = .ok (.ifCond .lt 8, 3) := by decide +kernel
theorem dX9_game_23 : decode cX9_game 23 = .ok (.iload_n 2, 1) := by decide +kernel
theorem dX9_game_24 : decode cX9_game 24 = .ok (.iconst 1, 1) := by decide +kernel
theorem dX9_game_25 : decode cX9_game 25 = .ok (.if_icmp .le 6, 3) := by decide +kernel
theorem dX9_game_28 : decode cX9_game 28 = .ok (.bipush (-102), 2) := by decide +kernel
theorem dX9_game_30 : decode cX9_game 30 = .ok (.ireturn, 1) := by decide +kernel
theorem dX9_game_31 : decode cX9_game 31 = .ok (.aload_n 0, 1) := by decide +kernel
theorem dX9_game_32 : decode cX9_game 32 = .ok (.getfield 60, 3) := by decide +kernel
theorem dX9_game_35 : decode cX9_game 35 = .ok (.aload_n 0, 1) := by decide +kernel
theorem dX9_game_36 : decode cX9_game 36 = .ok (.getfield 74, 3) := by decide +kernel
theorem dX9_game_39 : decode cX9_game 39 = .ok (.getfield 123, 3) := by decide +kernel
theorem dX9_game_42 : decode cX9_game 42 = .ok (.invokevirtual 222, 3) := by decide +kernel
theorem dX9_game_45 : decode cX9_game 45 = .ok (.iload_n 1, 1) := by decide +kernel
theorem dX9_game_46 : decode cX9_game 46 = .ok (.ifCond .ne 7, 3) := by decide +kernel
theorem dX9_game_49 : decode cX9_game 49 = .ok (.iconst 1, 1) := by decide +kernel
theorem dX9_game_50 : decode cX9_game 50 = .ok (.goto 4, 3) := by decide +kernel
theorem dX9_game_53 : decode cX9_game 53 = .ok (.iconst 2, 1) := by decide +kernel
theorem dX9_game_54 : decode cX9_game 54 = .ok (.istore_n 3, 1) := by decide +kernel
theorem dX9_game_55 : decode cX9_game 55 = .ok (.iload_n 2, 1) := by decide +kernel
theorem dX9_game_56 : decode cX9_game 56 = .ok (.ifCond .ne 27, 3) := by decide +kernel
theorem dX9_game_59 : decode cX9_game 59 = .ok (.aload_n 0, 1) := by decide +kernel
theorem dX9_game_60 : decode cX9_game 60 = .ok (.getfield 60, 3) := by decide +kernel
theorem dX9_game_63 : decode cX9_game 63 = .ok (.aload_n 0, 1) := by decide +kernel
theorem dX9_game_64 : decode cX9_game 64 = .ok (.getfield 74, 3) := by decide +kernel
theorem dX9_game_67 : decode cX9_game 67 = .ok (.getfield 123, 3) := by decide +kernel
theorem dX9_game_70 : decode cX9_game 70 = .ok (.iload_n 3, 1) := by decide +kernel
theorem dX9_game_71 : decode cX9_game 71 = .ok (.invokevirtual 228, 3) := by decide +kernel
theorem dX9_game_74 : decode cX9_game 74 = .ok (.ifCond .eq 7, 3) := by decide +kernel
theorem dX9_game_77 : decode cX9_game 77 = .ok (.iconst 1, 1) := by decide +kernel
theorem dX9_game_78 : decode cX9_game 78 = .ok (.goto 4, 3) := by decide +kernel
theorem dX9_game_81 : decode cX9_game 81 = .ok (.iconst 0, 1) := by decide +kernel
theorem dX9_game_82 : decode cX9_game 82 = .ok (.ireturn, 1) := by decide +kernel
theorem dX9_game_83 : decode cX9_game 83 = .ok (.aload_n 0, 1) := by decide +kernel
theorem dX9_game_84 : decode cX9_game 84 = .ok (.getfield 60, 3) := by decide +kernel
theorem dX9_game_87 : decode cX9_game 87 = .ok (.aload_n 0, 1) := by decide +kernel
theorem dX9_game_88 : decode cX9_game 88 = .ok (.getfield 74, 3) := by decide +kernel
theorem dX9_game_91 : decode cX9_game 91 = .ok (.getfield 123, 3) := by decide +kernel
theorem dX9_game_94 : decode cX9_game 94 = .ok (.iload_n 3, 1) := by decide +kernel
theorem dX9_game_95 : decode cX9_game 95 = .ok (.invokevirtual 231, 3) := by decide +kernel
theorem dX9_game_98 : decode cX9_game 98 = .ok (.ireturn, 1) := by decide +kernel
set_option maxRecDepth 20000 in
theorem ggX9_luck_X9_frogsOf : GoodIn wsX9_luck wsX9_frogsOf := goodIn_r _ [9, 10, 11, 8, 12, 13, 14, 15] (by decide +kernel) (by decide +kernel)
set_option maxRecDepth 20000 in
theorem gX9_luck_X9_frogsOf : GoodIn wsX9_luck (va_wsS RX9 152 yX9_frogsOf wsX9_frogsOf) := goodIn_app (goodIn_of _ (by decide +kernel)) ggX9_luck_X9_frogsOf
set_option maxRecDepth 20000 in
theorem ggX9_luck_X9_power : GoodIn wsX9_luck wsX9_power := goodIn_r _ [18] (by decide +kernel) (by decide +kernel)
set_option maxRecDepth 20000 in
theorem gX9_luck_X9_power : GoodIn wsX9_luck (va_wsS RX9 234 yX9_power wsX9_power) := goodIn_app (goodIn_of _ (by decide +kernel)) ggX9_luck_X9_power
set_option maxRecDepth 20000 in
theorem ggX9_luck_X0_rowsEndingAt : GoodIn wsX9_luck wsX0_rowsEndingAt := goodIn_r _ [23, 24, 25, 26, 27, 28, 29, 30, 31, 32, 33, 34, 35, 36, 37, 38, 39, 40, 41, 42, 43, 44, 45, 8, 46, 47, 48, 49, 50, 51, 52, 53, 54, 55, 56, 57, 58, 59, 60, 61, 62, 63, 64, 65, 66, 67, 68, 69, 70, 71, 72, 73, 74, 75, 76, 77, 78, 79, 14, 15, 80, 81, 82, 83, 84, 85, 86, 87, 88, 89, 90, 91, 92, 93, 94, 95, 96, 97, 98, 99, 100, 101, 102, 103, 104, 105, 106, 107, 108, 109, 110, 111, 112, 113, 114, 13, 115, 116, 117, 118, 119, 120, 121, 122, 123, 124, 125, 126, 22, 127, 128, 129, 130, 131, 132, 133, 134, 135, 136, 137, 138, 139, 140, 141, 142, 164, 165, 166, 167, 168, 169, 170, 171, 172, 173, 174, 175, 176, 177, 178, 179, 180, 181, 182, 183, 184, 185, 186, 187, 188, 189, 190, 191, 192, 193, 194, 195, 196, 197, 198] (by decide +kernel) (by decide +kernel)
set_option maxRecDepth 20000 in
theorem gX9_luck_X0_rowsEndingAt : GoodIn wsX9_luck (wsV RX9 237 RX0 yX0_rowsEndingAt wsX0_rowsEndingAt) := goodIn_app (goodIn_of _ (by decide +kernel)) ggX9_luck_X0_rowsEndingAt
set_option maxRecDepth 20000 in
theorem ggX9_luck_X9_greatestShared : GoodIn wsX9_luck wsX9_greatestShared := goodIn_r _ [145] (by decide +kernel) (by decide +kernel)
set_option maxRecDepth 20000 in
theorem gX9_luck_X9_greatestShared : GoodIn wsX9_luck (va_wsS RX9 241 yX9_greatestShared wsX9_greatestShared) := goodIn_app (goodIn_of _ (by decide +kernel)) ggX9_luck_X9_greatestShared
theorem dX9_luck_0 : decode cX9_luck 0 = .ok (.aload_n 0, 1) := by decide +kernel
theorem dX9_luck_1 : decode cX9_luck 1 = .ok (.getfield 136, 3) := by decide +kernel
theorem dX9_luck_4 : decode cX9_luck 4 = .ok (.ifCond .eq 16, 3) := by decide +kernel
theorem dX9_luck_7 : decode cX9_luck 7 = .ok (.aload_n 0, 1) := by decide +kernel
theorem dX9_luck_8 : decode cX9_luck 8 = .ok (.getfield 74, 3) := by decide +kernel
theorem dX9_luck_11 : decode cX9_luck 11 = .ok (.getfield 123, 3) := by decide +kernel
theorem dX9_luck_14 : decode cX9_luck 14 = .ok (.invokestatic 152, 3) := by decide +kernel
theorem dX9_luck_17 : decode cX9_luck 17 = .ok (.ifCond .ne 6, 3) := by decide +kernel
theorem dX9_luck_20 : decode cX9_luck 20 = .ok (.bipush (-103), 2) := by decide +kernel
theorem dX9_luck_22 : decode cX9_luck 22 = .ok (.ireturn, 1) := by decide +kernel
theorem dX9_luck_23 : decode cX9_luck 23 = .ok (.iload_n 1, 1) := by decide +kernel
theorem dX9_luck_24 : decode cX9_luck 24 = .ok (.ifCond .lt 18, 3) := by decide +kernel
theorem dX9_luck_27 : decode cX9_luck 27 = .ok (.iload_n 1, 1) := by decide +kernel
theorem dX9_luck_28 : decode cX9_luck 28 = .ok (.bipush 6, 2) := by decide +kernel
theorem dX9_luck_30 : decode cX9_luck 30 = .ok (.if_icmp .gt 12, 3) := by decide +kernel
theorem dX9_luck_33 : decode cX9_luck 33 = .ok (.iload_n 2, 1) := by decide +kernel
theorem dX9_luck_34 : decode cX9_luck 34 = .ok (.ifCond .lt 8, 3) := by decide +kernel
theorem dX9_luck_37 : decode cX9_luck 37 = .ok (.iload_n 2, 1) := by decide +kernel
theorem dX9_luck_38 : decode cX9_luck 38 = .ok (.iconst 1, 1) := by decide +kernel
theorem dX9_luck_39 : decode cX9_luck 39 = .ok (.if_icmp .le 6, 3) := by decide +kernel
theorem dX9_luck_42 : decode cX9_luck 42 = .ok (.bipush (-102), 2) := by decide +kernel
theorem dX9_luck_44 : decode cX9_luck 44 = .ok (.ireturn, 1) := by decide +kernel
theorem dX9_luck_45 : decode cX9_luck 45 = .ok (.aload_n 0, 1) := by decide +kernel
theorem dX9_luck_46 : decode cX9_luck 46 = .ok (.getfield 74, 3) := by decide +kernel
theorem dX9_luck_49 : decode cX9_luck 49 = .ok (.getfield 123, 3) := by decide +kernel
theorem dX9_luck_52 : decode cX9_luck 52 = .ok (.invokestatic 152, 3) := by decide +kernel
theorem dX9_luck_55 : decode cX9_luck 55 = .ok (.iload_n 1, 1) := by decide +kernel
theorem dX9_luck_56 : decode cX9_luck 56 = .ok (.invokestatic 234, 3) := by decide +kernel
theorem dX9_luck_59 : decode cX9_luck 59 = .ok (.istore_n 3, 1) := by decide +kernel
theorem dX9_luck_60 : decode cX9_luck 60 = .ok (.aload_n 0, 1) := by decide +kernel
theorem dX9_luck_61 : decode cX9_luck 61 = .ok (.getfield 67, 3) := by decide +kernel
theorem dX9_luck_64 : decode cX9_luck 64 = .ok (.aload_n 0, 1) := by decide +kernel
theorem dX9_luck_65 : decode cX9_luck 65 = .ok (.getfield 149, 3) := by decide +kernel
theorem dX9_luck_68 : decode cX9_luck 68 = .ok (.aload_n 0, 1) := by decide +kernel
