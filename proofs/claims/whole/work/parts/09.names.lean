theorem dX10_layRow_49 : decode cX10_layRow 49 = .ok (.if_icmp .ge 81, 3) := by decide +kernel
theorem dX10_layRow_52 : decode cX10_layRow 52 = .ok (.iconst 0, 1) := by decide +kernel
theorem dX10_layRow_53 : decode cX10_layRow 53 = .ok (.istore_n 2, 1) := by decide +kernel
theorem dX10_layRow_54 : decode cX10_layRow 54 = .ok (.iload_n 2, 1) := by decide +kernel
theorem dX10_layRow_55 : decode cX10_layRow 55 = .ok (.aload_n 0, 1) := by decide +kernel
theorem dX10_layRow_56 : decode cX10_layRow 56 = .ok (.getfield 106, 3) := by decide +kernel
theorem dX10_layRow_59 : decode cX10_layRow 59 = .ok (.aload_n 0, 1) := by decide +kernel
theorem dX10_layRow_60 : decode cX10_layRow 60 = .ok (.getfield 106, 3) := by decide +kernel
theorem dX10_layRow_63 : decode cX10_layRow 63 = .ok (.imul, 1) := by decide +kernel
theorem dX10_layRow_64 : decode cX10_layRow 64 = .ok (.if_icmp .ge 60, 3) := by decide +kernel
theorem dX10_layRow_67 : decode cX10_layRow 67 = .ok (.aload_n 0, 1) := by decide +kernel
theorem dX10_layRow_68 : decode cX10_layRow 68 = .ok (.aload_n 0, 1) := by decide +kernel
theorem dX10_layRow_69 : decode cX10_layRow 69 = .ok (.getfield 26, 3) := by decide +kernel
theorem dX10_layRow_72 : decode cX10_layRow 72 = .ok (.iload_n 1, 1) := by decide +kernel
theorem dX10_layRow_73 : decode cX10_layRow 73 = .ok (.iaload, 1) := by decide +kernel
theorem dX10_layRow_74 : decode cX10_layRow 74 = .ok (.iload_n 2, 1) := by decide +kernel
theorem dX10_layRow_75 : decode cX10_layRow 75 = .ok (.aload_n 0, 1) := by decide +kernel
theorem dX10_layRow_76 : decode cX10_layRow 76 = .ok (.getfield 106, 3) := by decide +kernel
theorem dX10_layRow_79 : decode cX10_layRow 79 = .ok (.idiv, 1) := by decide +kernel
theorem dX10_layRow_80 : decode cX10_layRow 80 = .ok (.iload_n 2, 1) := by decide +kernel
theorem dX10_layRow_81 : decode cX10_layRow 81 = .ok (.aload_n 0, 1) := by decide +kernel
theorem dX10_layRow_82 : decode cX10_layRow 82 = .ok (.getfield 106, 3) := by decide +kernel
theorem dX10_layRow_85 : decode cX10_layRow 85 = .ok (.irem, 1) := by decide +kernel
theorem dX10_layRow_86 : decode cX10_layRow 86 = .ok (.invokevirtual 164, 3) := by decide +kernel
theorem dX10_layRow_89 : decode cX10_layRow 89 = .ok (.ifCond .eq 29, 3) := by decide +kernel
theorem dX10_layRow_92 : decode cX10_layRow 92 = .ok (.aload_n 0, 1) := by decide +kernel
theorem dX10_layRow_93 : decode cX10_layRow 93 = .ok (.aload_n 0, 1) := by decide +kernel
theorem dX10_layRow_94 : decode cX10_layRow 94 = .ok (.getfield 26, 3) := by decide +kernel
theorem dX10_layRow_97 : decode cX10_layRow 97 = .ok (.iload_n 1, 1) := by decide +kernel
theorem dX10_layRow_98 : decode cX10_layRow 98 = .ok (.iaload, 1) := by decide +kernel
theorem dX10_layRow_99 : decode cX10_layRow 99 = .ok (.iload_n 2, 1) := by decide +kernel
theorem dX10_layRow_100 : decode cX10_layRow 100 = .ok (.aload_n 0, 1) := by decide +kernel
theorem dX10_layRow_101 : decode cX10_layRow 101 = .ok (.getfield 106, 3) := by decide +kernel
theorem dX10_layRow_104 : decode cX10_layRow 104 = .ok (.idiv, 1) := by decide +kernel
theorem dX10_layRow_105 : decode cX10_layRow 105 = .ok (.iload_n 2, 1) := by decide +kernel
theorem dX10_layRow_106 : decode cX10_layRow 106 = .ok (.aload_n 0, 1) := by decide +kernel
theorem dX10_layRow_107 : decode cX10_layRow 107 = .ok (.getfield 106, 3) := by decide +kernel
theorem dX10_layRow_110 : decode cX10_layRow 110 = .ok (.irem, 1) := by decide +kernel
theorem dX10_layRow_111 : decode cX10_layRow 111 = .ok (.invokestatic 167, 3) := by decide +kernel
theorem dX10_layRow_114 : decode cX10_layRow 114 = .ok (.iload_n 1, 1) := by decide +kernel
theorem dX10_layRow_115 : decode cX10_layRow 115 = .ok (.invokevirtual 179, 3) := by decide +kernel
theorem dX10_layRow_118 : decode cX10_layRow 118 = .ok (.iinc 2 1, 3) := by decide +kernel
theorem dX10_layRow_121 : decode cX10_layRow 121 = .ok (.goto (-67), 3) := by decide +kernel
theorem dX10_layRow_124 : decode cX10_layRow 124 = .ok (.iinc 1 1, 3) := by decide +kernel
theorem dX10_layRow_127 : decode cX10_layRow 127 = .ok (.goto (-83), 3) := by decide +kernel
theorem dX10_layRow_130 : decode cX10_layRow 130 = .ok (.return_, 1) := by decide +kernel
set_option maxRecDepth 20000 in
theorem ggX10_noAim_X10_lacks : GoodIn wsX10_noAim wsX10_lacks := goodIn_r _ [6, 7, 8, 9, 10, 11, 12, 13, 14, 15, 16, 17, 18, 19, 20, 21, 22, 23, 24, 25, 26, 27, 28, 29, 30, 31, 32, 33, 34, 35, 36, 37, 38, 39, 40, 41] (by decide +kernel) (by decide +kernel)
set_option maxRecDepth 20000 in
theorem gX10_noAim_X10_lacks : GoodIn wsX10_noAim (wsV RX10 129 RX10 yX10_lacks wsX10_lacks) := goodIn_app (goodIn_of _ (by decide +kernel)) ggX10_noAim_X10_lacks
theorem dX10_noAim_0 : decode cX10_noAim 0 = .ok (.aload_n 0, 1) := by decide +kernel
theorem dX10_noAim_1 : decode cX10_noAim 1 = .ok (.invokevirtual 129, 3) := by decide +kernel
theorem dX10_noAim_4 : decode cX10_noAim 4 = .ok (.ifCond .ne 11, 3) := by decide +kernel
theorem dX10_noAim_7 : decode cX10_noAim 7 = .ok (.aload_n 0, 1) := by decide +kernel
theorem dX10_noAim_8 : decode cX10_noAim 8 = .ok (.getfield 52, 3) := by decide +kernel
theorem dX10_noAim_11 : decode cX10_noAim 11 = .ok (.iconst (-1), 1) := by decide +kernel
theorem dX10_noAim_12 : decode cX10_noAim 12 = .ok (.if_icmp .ne 7, 3) := by decide +kernel
theorem dX10_noAim_15 : decode cX10_noAim 15 = .ok (.iconst 1, 1) := by decide +kernel
theorem dX10_noAim_16 : decode cX10_noAim 16 = .ok (.goto 4, 3) := by decide +kernel
theorem dX10_noAim_19 : decode cX10_noAim 19 = .ok (.iconst 0, 1) := by decide +kernel
theorem dX10_noAim_20 : decode cX10_noAim 20 = .ok (.ireturn, 1) := by decide +kernel
theorem dX10_fewestNow_0 : decode cX10_fewestNow 0 = .ok (.aload_n 0, 1) := by decide +kernel
theorem dX10_fewestNow_1 : decode cX10_fewestNow 1 = .ok (.getfield 23, 3) := by decide +kernel
theorem dX10_fewestNow_4 : decode cX10_fewestNow 4 = .ok (.aload_n 0, 1) := by decide +kernel
theorem dX10_fewestNow_5 : decode cX10_fewestNow 5 = .ok (.getfield 52, 3) := by decide +kernel
theorem dX10_fewestNow_8 : decode cX10_fewestNow 8 = .ok (.iaload, 1) := by decide +kernel
theorem dX10_fewestNow_9 : decode cX10_fewestNow 9 = .ok (.iconst 1, 1) := by decide +kernel
theorem dX10_fewestNow_10 : decode cX10_fewestNow 10 = .ok (.isub, 1) := by decide +kernel
theorem dX10_fewestNow_11 : decode cX10_fewestNow 11 = .ok (.istore_n 1, 1) := by decide +kernel
theorem dX10_fewestNow_12 : decode cX10_fewestNow 12 = .ok (.iload_n 1, 1) := by decide +kernel
theorem dX10_fewestNow_13 : decode cX10_fewestNow 13 = .ok (.ifCond .ge 7, 3) := by decide +kernel
theorem dX10_fewestNow_16 : decode cX10_fewestNow 16 = .ok (.iconst (-1), 1) := by decide +kernel
theorem dX10_fewestNow_17 : decode cX10_fewestNow 17 = .ok (.goto 9, 3) := by decide +kernel
theorem dX10_fewestNow_20 : decode cX10_fewestNow 20 = .ok (.aload_n 0, 1) := by decide +kernel
theorem dX10_fewestNow_21 : decode cX10_fewestNow 21 = .ok (.getfield 29, 3) := by decide +kernel
theorem dX10_fewestNow_24 : decode cX10_fewestNow 24 = .ok (.iload_n 1, 1) := by decide +kernel
theorem dX10_fewestNow_25 : decode cX10_fewestNow 25 = .ok (.iaload, 1) := by decide +kernel
theorem dX10_fewestNow_26 : decode cX10_fewestNow 26 = .ok (.ireturn, 1) := by decide +kernel
theorem dX10_waysNow_0 : decode cX10_waysNow 0 = .ok (.aload_n 0, 1) := by decide +kernel
theorem dX10_waysNow_1 : decode cX10_waysNow 1 = .ok (.getfield 23, 3) := by decide +kernel
theorem dX10_waysNow_4 : decode cX10_waysNow 4 = .ok (.aload_n 0, 1) := by decide +kernel
theorem dX10_waysNow_5 : decode cX10_waysNow 5 = .ok (.getfield 52, 3) := by decide +kernel
theorem dX10_waysNow_8 : decode cX10_waysNow 8 = .ok (.iaload, 1) := by decide +kernel
theorem dX10_waysNow_9 : decode cX10_waysNow 9 = .ok (.iconst 1, 1) := by decide +kernel
theorem dX10_waysNow_10 : decode cX10_waysNow 10 = .ok (.isub, 1) := by decide +kernel
theorem dX10_waysNow_11 : decode cX10_waysNow 11 = .ok (.istore_n 1, 1) := by decide +kernel
theorem dX10_waysNow_12 : decode cX10_waysNow 12 = .ok (.iload_n 1, 1) := by decide +kernel
theorem dX10_waysNow_13 : decode cX10_waysNow 13 = .ok (.ifCond .ge 7, 3) := by decide +kernel
theorem dX10_waysNow_16 : decode cX10_waysNow 16 = .ok (.lconst 0, 1) := by decide +kernel
theorem dX10_waysNow_17 : decode cX10_waysNow 17 = .ok (.goto 9, 3) := by decide +kernel
theorem dX10_waysNow_20 : decode cX10_waysNow 20 = .ok (.aload_n 0, 1) := by decide +kernel
theorem dX10_waysNow_21 : decode cX10_waysNow 21 = .ok (.getfield 32, 3) := by decide +kernel
theorem dX10_waysNow_24 : decode cX10_waysNow 24 = .ok (.iload_n 1, 1) := by decide +kernel
theorem dX10_waysNow_25 : decode cX10_waysNow 25 = .ok (.laload, 1) := by decide +kernel
theorem dX10_waysNow_26 : decode cX10_waysNow 26 = .ok (.lreturn, 1) := by decide +kernel
set_option maxRecDepth 20000 in
theorem ggX10_fewest_X10_noAim : GoodIn wsX10_fewest wsX10_noAim := goodIn_r _ [5, 6, 7, 8, 9, 4, 10, 11, 62, 63, 64, 65, 66, 67, 68, 69, 70, 71, 72, 73, 74, 75, 76, 77, 78, 79, 80, 81, 82, 83, 84, 85, 86, 87, 88, 89, 90, 91, 92, 93, 94, 95] (by decide +kernel) (by decide +kernel)
set_option maxRecDepth 20000 in
theorem gX10_fewest_X10_noAim : GoodIn wsX10_fewest (wsV RX10 183 RX10 yX10_noAim wsX10_noAim) := goodIn_app (goodIn_of _ (by decide +kernel)) ggX10_fewest_X10_noAim
set_option maxRecDepth 20000 in
theorem ggX10_fewest_X10_layRow : GoodIn wsX10_fewest wsX10_layRow := goodIn_r _ [15, 16, 17, 18, 19, 11, 20, 21, 22, 4, 23, 24, 25, 26, 27, 28, 29, 30, 31, 32, 33, 34, 35, 36, 37, 38, 39, 40, 41, 42, 43, 44, 45, 46, 47, 48, 49, 50, 51, 52, 53, 54, 55, 56, 57, 62, 63, 64, 65, 66, 67, 68, 69, 70, 71, 72, 73, 74, 75, 76, 77, 78, 79, 80, 81, 82, 83, 84, 85, 86, 87, 88, 89, 90, 91, 92, 93, 94, 95] (by decide +kernel) (by decide +kernel)
set_option maxRecDepth 20000 in
theorem gX10_fewest_X10_layRow : GoodIn wsX10_fewest (wsV RX10 186 RX10 yX10_layRow wsX10_layRow) := goodIn_app (goodIn_of _ (by decide +kernel)) ggX10_fewest_X10_layRow
set_option maxRecDepth 20000 in
theorem ggX10_fewest_X10_fewestNow : GoodIn wsX10_fewest wsX10_fewestNow := goodIn_r _ [61, 17, 6, 24, 62, 63, 64, 65, 66, 67, 68, 69, 70, 71, 72, 73, 74, 75, 76, 77, 78, 79, 80, 81, 82, 83, 84, 85, 86, 87, 88, 89, 90, 91, 92, 93, 94, 95] (by decide +kernel) (by decide +kernel)
set_option maxRecDepth 20000 in
theorem gX10_fewest_X10_fewestNow : GoodIn wsX10_fewest (wsV RX10 189 RX10 yX10_fewestNow wsX10_fewestNow) := goodIn_app (goodIn_of _ (by decide +kernel)) ggX10_fewest_X10_fewestNow
theorem dX10_fewest_0 : decode cX10_fewest 0 = .ok (.aload_n 0, 1) := by decide +kernel
theorem dX10_fewest_1 : decode cX10_fewest 1 = .ok (.invokevirtual 183, 3) := by decide +kernel
theorem dX10_fewest_4 : decode cX10_fewest 4 = .ok (.ifCond .eq 6, 3) := by decide +kernel
theorem dX10_fewest_7 : decode cX10_fewest 7 = .ok (.bipush (-103), 2) := by decide +kernel
theorem dX10_fewest_9 : decode cX10_fewest 9 = .ok (.ireturn, 1) := by decide +kernel
theorem dX10_fewest_10 : decode cX10_fewest 10 = .ok (.aload_n 0, 1) := by decide +kernel
theorem dX10_fewest_11 : decode cX10_fewest 11 = .ok (.invokevirtual 186, 3) := by decide +kernel
theorem dX10_fewest_14 : decode cX10_fewest 14 = .ok (.aload_n 0, 1) := by decide +kernel
theorem dX10_fewest_15 : decode cX10_fewest 15 = .ok (.invokevirtual 189, 3) := by decide +kernel
theorem dX10_fewest_18 : decode cX10_fewest 18 = .ok (.ireturn, 1) := by decide +kernel
set_option maxRecDepth 20000 in
theorem ggX10_ways_X10_noAim : GoodIn wsX10_ways wsX10_noAim := goodIn_r _ [6, 7, 8, 9, 10, 5, 11, 12, 63, 64, 65, 66, 67, 68, 69, 70, 71, 72, 73, 74, 75, 76, 77, 78, 79, 80, 81, 82, 83, 84, 85, 86, 87, 88, 89, 90, 91, 92, 93, 94, 95, 96] (by decide +kernel) (by decide +kernel)
set_option maxRecDepth 20000 in
theorem gX10_ways_X10_noAim : GoodIn wsX10_ways (wsV RX10 183 RX10 yX10_noAim wsX10_noAim) := goodIn_app (goodIn_of _ (by decide +kernel)) ggX10_ways_X10_noAim
set_option maxRecDepth 20000 in
theorem ggX10_ways_X10_layRow : GoodIn wsX10_ways wsX10_layRow := goodIn_r _ [16, 17, 18, 19, 20, 12, 21, 22, 23, 5, 24, 25, 26, 27, 28, 29, 30, 31, 32, 33, 34, 35, 36, 37, 38, 39, 40, 41, 42, 43, 44, 45, 46, 47, 48, 49, 50, 51, 52, 53, 54, 55, 56, 57, 58, 63, 64, 65, 66, 67, 68, 69, 70, 71, 72, 73, 74, 75, 76, 77, 78, 79, 80, 81, 82, 83, 84, 85, 86, 87, 88, 89, 90, 91, 92, 93, 94, 95, 96] (by decide +kernel) (by decide +kernel)
set_option maxRecDepth 20000 in
theorem gX10_ways_X10_layRow : GoodIn wsX10_ways (wsV RX10 186 RX10 yX10_layRow wsX10_layRow) := goodIn_app (goodIn_of _ (by decide +kernel)) ggX10_ways_X10_layRow
set_option maxRecDepth 20000 in
theorem ggX10_ways_X10_waysNow : GoodIn wsX10_ways wsX10_waysNow := goodIn_r _ [62, 18, 7, 26, 63, 64, 65, 66, 67, 68, 69, 70, 71, 72, 73, 74, 75, 76, 77, 78, 79, 80, 81, 82, 83, 84, 85, 86, 87, 88, 89, 90, 91, 92, 93, 94, 95, 96] (by decide +kernel) (by decide +kernel)
set_option maxRecDepth 20000 in
theorem gX10_ways_X10_waysNow : GoodIn wsX10_ways (wsV RX10 194 RX10 yX10_waysNow wsX10_waysNow) := goodIn_app (goodIn_of _ (by decide +kernel)) ggX10_ways_X10_waysNow
theorem dX10_ways_0 : decode cX10_ways 0 = .ok (.aload_n 0, 1) := by decide +kernel
theorem dX10_ways_1 : decode cX10_ways 1 = .ok (.invokevirtual 183, 3) := by decide +kernel
theorem dX10_ways_4 : decode cX10_ways 4 = .ok (.ifCond .eq 7, 3) := by decide +kernel
theorem dX10_ways_7 : decode cX10_ways 7 = .ok (.ldc2_w 192, 3) := by decide +kernel
theorem dX10_ways_10 : decode cX10_ways 10 = .ok (.lreturn, 1) := by decide +kernel
theorem dX10_ways_11 : decode cX10_ways 11 = .ok (.aload_n 0, 1) := by decide +kernel
theorem dX10_ways_12 : decode cX10_ways 12 = .ok (.invokevirtual 186, 3) := by decide +kernel
theorem dX10_ways_15 : decode cX10_ways 15 = .ok (.aload_n 0, 1) := by decide +kernel
theorem dX10_ways_16 : decode cX10_ways 16 = .ok (.invokevirtual 194, 3) := by decide +kernel
theorem dX10_ways_19 : decode cX10_ways 19 = .ok (.lreturn, 1) := by decide +kernel
set_option maxRecDepth 20000 in
theorem ggX10_byNow_X10_canGo : GoodIn wsX10_byNow wsX10_canGo := goodIn_r _ [13, 14, 15, 16, 17, 12, 18, 19, 20, 21, 22, 23, 24, 25, 26, 27, 28, 29, 30, 31, 32, 5, 33, 34, 35, 36, 37, 41, 42, 43, 44, 45, 46, 47, 48, 49, 50, 51, 52, 53, 54, 55, 56, 57, 58, 59, 60, 61, 62, 63, 64, 65, 66, 67, 68, 69, 70, 71, 72, 73, 74] (by decide +kernel) (by decide +kernel)
set_option maxRecDepth 20000 in
theorem gX10_byNow_X10_canGo : GoodIn wsX10_byNow (wsV RX10 164 RX10 yX10_canGo wsX10_canGo) := goodIn_app (goodIn_of _ (by decide +kernel)) ggX10_byNow_X10_canGo
set_option maxRecDepth 20000 in
theorem ggX10_byNow_X10_moved : GoodIn wsX10_byNow wsX10_moved := goodIn_r _ [40] (by decide +kernel) (by decide +kernel)
set_option maxRecDepth 20000 in
theorem gX10_byNow_X10_moved : GoodIn wsX10_byNow (va_wsS RX10 167 yX10_moved wsX10_moved) := goodIn_app (goodIn_of _ (by decide +kernel)) ggX10_byNow_X10_moved
theorem dX10_byNow_0 : decode cX10_byNow 0 = .ok (.aload_n 0, 1) := by decide +kernel
theorem dX10_byNow_1 : decode cX10_byNow 1 = .ok (.getfield 23, 3) := by decide +kernel
theorem dX10_byNow_4 : decode cX10_byNow 4 = .ok (.aload_n 0, 1) := by decide +kernel
theorem dX10_byNow_5 : decode cX10_byNow 5 = .ok (.getfield 52, 3) := by decide +kernel
theorem dX10_byNow_8 : decode cX10_byNow 8 = .ok (.iaload, 1) := by decide +kernel
theorem dX10_byNow_9 : decode cX10_byNow 9 = .ok (.iconst 1, 1) := by decide +kernel
theorem dX10_byNow_10 : decode cX10_byNow 10 = .ok (.isub, 1) := by decide +kernel
theorem dX10_byNow_11 : decode cX10_byNow 11 = .ok (.istore_n 1, 1) := by decide +kernel
theorem dX10_byNow_12 : decode cX10_byNow 12 = .ok (.iload_n 1, 1) := by decide +kernel
theorem dX10_byNow_13 : decode cX10_byNow 13 = .ok (.ifCond .gt 5, 3) := by decide +kernel
theorem dX10_byNow_16 : decode cX10_byNow 16 = .ok (.iconst (-1), 1) := by decide +kernel
theorem dX10_byNow_17 : decode cX10_byNow 17 = .ok (.ireturn, 1) := by decide +kernel
theorem dX10_byNow_18 : decode cX10_byNow 18 = .ok (.iconst 0, 1) := by decide +kernel
theorem dX10_byNow_19 : decode cX10_byNow 19 = .ok (.istore_n 2, 1) := by decide +kernel
theorem dX10_byNow_20 : decode cX10_byNow 20 = .ok (.iload_n 2, 1) := by decide +kernel
theorem dX10_byNow_21 : decode cX10_byNow 21 = .ok (.aload_n 0, 1) := by decide +kernel
theorem dX10_byNow_22 : decode cX10_byNow 22 = .ok (.getfield 176, 3) := by decide +kernel
theorem dX10_byNow_25 : decode cX10_byNow 25 = .ok (.if_icmp .ge 25, 3) := by decide +kernel
theorem dX10_byNow_28 : decode cX10_byNow 28 = .ok (.aload_n 0, 1) := by decide +kernel
theorem dX10_byNow_29 : decode cX10_byNow 29 = .ok (.getfield 36, 3) := by decide +kernel
theorem dX10_byNow_32 : decode cX10_byNow 32 = .ok (.iload_n 2, 1) := by decide +kernel
theorem dX10_byNow_33 : decode cX10_byNow 33 = .ok (.iload_n 2, 1) := by decide +kernel
theorem dX10_byNow_34 : decode cX10_byNow 34 = .ok (.iload_n 1, 1) := by decide +kernel
theorem dX10_byNow_35 : decode cX10_byNow 35 = .ok (.if_icmp .ne 7, 3) := by decide +kernel
theorem dX10_byNow_38 : decode cX10_byNow 38 = .ok (.iconst 1, 1) := by decide +kernel
theorem dX10_byNow_39 : decode cX10_byNow 39 = .ok (.goto 4, 3) := by decide +kernel
theorem dX10_byNow_42 : decode cX10_byNow 42 = .ok (.iconst 0, 1) := by decide +kernel
theorem dX10_byNow_43 : decode cX10_byNow 43 = .ok (.iastore, 1) := by decide +kernel
theorem dX10_byNow_44 : decode cX10_byNow 44 = .ok (.iinc 2 1, 3) := by decide +kernel
theorem dX10_byNow_47 : decode cX10_byNow 47 = .ok (.goto (-27), 3) := by decide +kernel
theorem dX10_byNow_50 : decode cX10_byNow 50 = .ok (.iload_n 1, 1) := by decide +kernel
theorem dX10_byNow_51 : decode cX10_byNow 51 = .ok (.iconst 1, 1) := by decide +kernel
theorem dX10_byNow_52 : decode cX10_byNow 52 = .ok (.isub, 1) := by decide +kernel
theorem dX10_byNow_53 : decode cX10_byNow 53 = .ok (.istore_n 2, 1) := by decide +kernel
theorem dX10_byNow_54 : decode cX10_byNow 54 = .ok (.iload_n 2, 1) := by decide +kernel
theorem dX10_byNow_55 : decode cX10_byNow 55 = .ok (.ifCond .lt 149, 3) := by decide +kernel
theorem dX10_byNow_58 : decode cX10_byNow 58 = .ok (.iconst 0, 1) := by decide +kernel
theorem dX10_byNow_59 : decode cX10_byNow 59 = .ok (.istore_n 3, 1) := by decide +kernel
theorem dX10_byNow_60 : decode cX10_byNow 60 = .ok (.iload_n 3, 1) := by decide +kernel
theorem dX10_byNow_61 : decode cX10_byNow 61 = .ok (.aload_n 0, 1) := by decide +kernel
theorem dX10_byNow_62 : decode cX10_byNow 62 = .ok (.getfield 106, 3) := by decide +kernel
theorem dX10_byNow_65 : decode cX10_byNow 65 = .ok (.aload_n 0, 1) := by decide +kernel
theorem dX10_byNow_66 : decode cX10_byNow 66 = .ok (.getfield 106, 3) := by decide +kernel
theorem dX10_byNow_69 : decode cX10_byNow 69 = .ok (.imul, 1) := by decide +kernel
theorem dX10_byNow_70 : decode cX10_byNow 70 = .ok (.if_icmp .ge 128, 3) := by decide +kernel
theorem dX10_byNow_73 : decode cX10_byNow 73 = .ok (.aload_n 0, 1) := by decide +kernel
theorem dX10_byNow_74 : decode cX10_byNow 74 = .ok (.getfield 36, 3) := by decide +kernel
theorem dX10_byNow_77 : decode cX10_byNow 77 = .ok (.iload_n 2, 1) := by decide +kernel
theorem dX10_byNow_78 : decode cX10_byNow 78 = .ok (.iaload, 1) := by decide +kernel
theorem dX10_byNow_79 : decode cX10_byNow 79 = .ok (.ifCond .ne 119, 3) := by decide +kernel
theorem dX10_byNow_82 : decode cX10_byNow 82 = .ok (.aload_n 0, 1) := by decide +kernel
theorem dX10_byNow_83 : decode cX10_byNow 83 = .ok (.getfield 29, 3) := by decide +kernel
theorem dX10_byNow_86 : decode cX10_byNow 86 = .ok (.iload_n 2, 1) := by decide +kernel
theorem dX10_byNow_87 : decode cX10_byNow 87 = .ok (.iaload, 1) := by decide +kernel
theorem dX10_byNow_88 : decode cX10_byNow 88 = .ok (.aload_n 0, 1) := by decide +kernel
theorem dX10_byNow_89 : decode cX10_byNow 89 = .ok (.getfield 29, 3) := by decide +kernel
theorem dX10_byNow_92 : decode cX10_byNow 92 = .ok (.iload_n 1, 1) := by decide +kernel
theorem dX10_byNow_93 : decode cX10_byNow 93 = .ok (.iaload, 1) := by decide +kernel
theorem dX10_byNow_94 : decode cX10_byNow 94 = .ok (.if_icmp .ge 104, 3) := by decide +kernel
theorem dX10_byNow_97 : decode cX10_byNow 97 = .ok (.aload_n 0, 1) := by decide +kernel
theorem dX10_byNow_98 : decode cX10_byNow 98 = .ok (.aload_n 0, 1) := by decide +kernel
theorem dX10_byNow_99 : decode cX10_byNow 99 = .ok (.getfield 26, 3) := by decide +kernel
theorem dX10_byNow_102 : decode cX10_byNow 102 = .ok (.iload_n 2, 1) := by decide +kernel
theorem dX10_byNow_103 : decode cX10_byNow 103 = .ok (.iaload, 1) := by decide +kernel
theorem dX10_byNow_104 : decode cX10_byNow 104 = .ok (.iload_n 3, 1) := by decide +kernel
theorem dX10_byNow_105 : decode cX10_byNow 105 = .ok (.aload_n 0, 1) := by decide +kernel
theorem dX10_byNow_106 : decode cX10_byNow 106 = .ok (.getfield 106, 3) := by decide +kernel
theorem dX10_byNow_109 : decode cX10_byNow 109 = .ok (.idiv, 1) := by decide +kernel
theorem dX10_byNow_110 : decode cX10_byNow 110 = .ok (.iload_n 3, 1) := by decide +kernel
theorem dX10_byNow_111 : decode cX10_byNow 111 = .ok (.aload_n 0, 1) := by decide +kernel
theorem dX10_byNow_112 : decode cX10_byNow 112 = .ok (.getfield 106, 3) := by decide +kernel
theorem dX10_byNow_115 : decode cX10_byNow 115 = .ok (.irem, 1) := by decide +kernel
theorem dX10_byNow_116 : decode cX10_byNow 116 = .ok (.invokevirtual 164, 3) := by decide +kernel
theorem dX10_byNow_119 : decode cX10_byNow 119 = .ok (.ifCond .eq 73, 3) := by decide +kernel
theorem dX10_byNow_122 : decode cX10_byNow 122 = .ok (.aload_n 0, 1) := by decide +kernel
theorem dX10_byNow_123 : decode cX10_byNow 123 = .ok (.getfield 23, 3) := by decide +kernel
theorem dX10_byNow_126 : decode cX10_byNow 126 = .ok (.aload_n 0, 1) := by decide +kernel
theorem dX10_byNow_127 : decode cX10_byNow 127 = .ok (.getfield 26, 3) := by decide +kernel
theorem dX10_byNow_130 : decode cX10_byNow 130 = .ok (.iload_n 2, 1) := by decide +kernel
theorem dX10_byNow_131 : decode cX10_byNow 131 = .ok (.iaload, 1) := by decide +kernel
theorem dX10_byNow_132 : decode cX10_byNow 132 = .ok (.iload_n 3, 1) := by decide +kernel
theorem dX10_byNow_133 : decode cX10_byNow 133 = .ok (.aload_n 0, 1) := by decide +kernel
theorem dX10_byNow_134 : decode cX10_byNow 134 = .ok (.getfield 106, 3) := by decide +kernel
theorem dX10_byNow_137 : decode cX10_byNow 137 = .ok (.idiv, 1) := by decide +kernel
theorem dX10_byNow_138 : decode cX10_byNow 138 = .ok (.iload_n 3, 1) := by decide +kernel
theorem dX10_byNow_139 : decode cX10_byNow 139 = .ok (.aload_n 0, 1) := by decide +kernel
theorem dX10_byNow_140 : decode cX10_byNow 140 = .ok (.getfield 106, 3) := by decide +kernel
theorem dX10_byNow_143 : decode cX10_byNow 143 = .ok (.irem, 1) := by decide +kernel
theorem dX10_byNow_144 : decode cX10_byNow 144 = .ok (.invokestatic 167, 3) := by decide +kernel
theorem dX10_byNow_147 : decode cX10_byNow 147 = .ok (.iaload, 1) := by decide +kernel
theorem dX10_byNow_148 : decode cX10_byNow 148 = .ok (.iconst 1, 1) := by decide +kernel
theorem dX10_byNow_149 : decode cX10_byNow 149 = .ok (.isub, 1) := by decide +kernel
theorem dX10_byNow_150 : decode cX10_byNow 150 = .ok (.istore 4, 2) := by decide +kernel
theorem dX10_byNow_152 : decode cX10_byNow 152 = .ok (.aload_n 0, 1) := by decide +kernel
theorem dX10_byNow_153 : decode cX10_byNow 153 = .ok (.getfield 36, 3) := by decide +kernel
theorem dX10_byNow_156 : decode cX10_byNow 156 = .ok (.iload_n 2, 1) := by decide +kernel
theorem dX10_byNow_157 : decode cX10_byNow 157 = .ok (.aload_n 0, 1) := by decide +kernel
theorem dX10_byNow_158 : decode cX10_byNow 158 = .ok (.getfield 36, 3) := by decide +kernel
theorem dX10_byNow_161 : decode cX10_byNow 161 = .ok (.iload 4, 2) := by decide +kernel
theorem dX10_byNow_163 : decode cX10_byNow 163 = .ok (.iaload, 1) := by decide +kernel
theorem dX10_byNow_164 : decode cX10_byNow 164 = .ok (.iconst 1, 1) := by decide +kernel
theorem dX10_byNow_165 : decode cX10_byNow 165 = .ok (.if_icmp .ne 25, 3) := by decide +kernel
theorem dX10_byNow_168 : decode cX10_byNow 168 = .ok (.aload_n 0, 1) := by decide +kernel
theorem dX10_byNow_169 : decode cX10_byNow 169 = .ok (.getfield 29, 3) := by decide +kernel
theorem dX10_byNow_172 : decode cX10_byNow 172 = .ok (.iload 4, 2) := by decide +kernel
theorem dX10_byNow_174 : decode cX10_byNow 174 = .ok (.iaload, 1) := by decide +kernel
theorem dX10_byNow_175 : decode cX10_byNow 175 = .ok (.aload_n 0, 1) := by decide +kernel
theorem dX10_byNow_176 : decode cX10_byNow 176 = .ok (.getfield 29, 3) := by decide +kernel
theorem dX10_byNow_179 : decode cX10_byNow 179 = .ok (.iload_n 2, 1) := by decide +kernel
theorem dX10_byNow_180 : decode cX10_byNow 180 = .ok (.iaload, 1) := by decide +kernel
theorem dX10_byNow_181 : decode cX10_byNow 181 = .ok (.iconst 1, 1) := by decide +kernel
theorem dX10_byNow_182 : decode cX10_byNow 182 = .ok (.iadd, 1) := by decide +kernel
theorem dX10_byNow_183 : decode cX10_byNow 183 = .ok (.if_icmp .ne 7, 3) := by decide +kernel
theorem dX10_byNow_186 : decode cX10_byNow 186 = .ok (.iconst 1, 1) := by decide +kernel
theorem dX10_byNow_187 : decode cX10_byNow 187 = .ok (.goto 4, 3) := by decide +kernel
theorem dX10_byNow_190 : decode cX10_byNow 190 = .ok (.iconst 0, 1) := by decide +kernel
theorem dX10_byNow_191 : decode cX10_byNow 191 = .ok (.iastore, 1) := by decide +kernel
theorem dX10_byNow_192 : decode cX10_byNow 192 = .ok (.iinc 3 1, 3) := by decide +kernel
theorem dX10_byNow_195 : decode cX10_byNow 195 = .ok (.goto (-135), 3) := by decide +kernel
theorem dX10_byNow_198 : decode cX10_byNow 198 = .ok (.iinc 2 (-1), 3) := by decide +kernel
theorem dX10_byNow_201 : decode cX10_byNow 201 = .ok (.goto (-147), 3) := by decide +kernel
theorem dX10_byNow_204 : decode cX10_byNow 204 = .ok (.iconst 0, 1) := by decide +kernel
theorem dX10_byNow_205 : decode cX10_byNow 205 = .ok (.istore_n 2, 1) := by decide +kernel
theorem dX10_byNow_206 : decode cX10_byNow 206 = .ok (.iload_n 2, 1) := by decide +kernel
theorem dX10_byNow_207 : decode cX10_byNow 207 = .ok (.aload_n 0, 1) := by decide +kernel
theorem dX10_byNow_208 : decode cX10_byNow 208 = .ok (.getfield 106, 3) := by decide +kernel
theorem dX10_byNow_211 : decode cX10_byNow 211 = .ok (.aload_n 0, 1) := by decide +kernel
theorem dX10_byNow_212 : decode cX10_byNow 212 = .ok (.getfield 106, 3) := by decide +kernel
theorem dX10_byNow_215 : decode cX10_byNow 215 = .ok (.imul, 1) := by decide +kernel
theorem dX10_byNow_216 : decode cX10_byNow 216 = .ok (.if_icmp .ge 96, 3) := by decide +kernel
theorem dX10_byNow_219 : decode cX10_byNow 219 = .ok (.aload_n 0, 1) := by decide +kernel
theorem dX10_byNow_220 : decode cX10_byNow 220 = .ok (.aload_n 0, 1) := by decide +kernel
theorem dX10_byNow_221 : decode cX10_byNow 221 = .ok (.getfield 116, 3) := by decide +kernel
theorem dX10_byNow_224 : decode cX10_byNow 224 = .ok (.iload_n 2, 1) := by decide +kernel
theorem dX10_byNow_225 : decode cX10_byNow 225 = .ok (.aload_n 0, 1) := by decide +kernel
theorem dX10_byNow_226 : decode cX10_byNow 226 = .ok (.getfield 106, 3) := by decide +kernel
theorem dX10_byNow_229 : decode cX10_byNow 229 = .ok (.idiv, 1) := by decide +kernel
theorem dX10_byNow_230 : decode cX10_byNow 230 = .ok (.iload_n 2, 1) := by decide +kernel
theorem dX10_byNow_231 : decode cX10_byNow 231 = .ok (.aload_n 0, 1) := by decide +kernel
theorem dX10_byNow_232 : decode cX10_byNow 232 = .ok (.getfield 106, 3) := by decide +kernel
theorem dX10_byNow_235 : decode cX10_byNow 235 = .ok (.irem, 1) := by decide +kernel
theorem dX10_byNow_236 : decode cX10_byNow 236 = .ok (.invokevirtual 164, 3) := by decide +kernel
theorem dX10_byNow_239 : decode cX10_byNow 239 = .ok (.ifCond .eq 67, 3) := by decide +kernel
theorem dX10_byNow_242 : decode cX10_byNow 242 = .ok (.aload_n 0, 1) := by decide +kernel
theorem dX10_byNow_243 : decode cX10_byNow 243 = .ok (.getfield 23, 3) := by decide +kernel
theorem dX10_byNow_246 : decode cX10_byNow 246 = .ok (.aload_n 0, 1) := by decide +kernel
theorem dX10_byNow_247 : decode cX10_byNow 247 = .ok (.getfield 116, 3) := by decide +kernel
theorem dX10_byNow_250 : decode cX10_byNow 250 = .ok (.iload_n 2, 1) := by decide +kernel
theorem dX10_byNow_251 : decode cX10_byNow 251 = .ok (.aload_n 0, 1) := by decide +kernel
theorem dX10_byNow_252 : decode cX10_byNow 252 = .ok (.getfield 106, 3) := by decide +kernel
theorem dX10_byNow_255 : decode cX10_byNow 255 = .ok (.idiv, 1) := by decide +kernel
theorem dX10_byNow_256 : decode cX10_byNow 256 = .ok (.iload_n 2, 1) := by decide +kernel
theorem dX10_byNow_257 : decode cX10_byNow 257 = .ok (.aload_n 0, 1) := by decide +kernel
theorem dX10_byNow_258 : decode cX10_byNow 258 = .ok (.getfield 106, 3) := by decide +kernel
theorem dX10_byNow_261 : decode cX10_byNow 261 = .ok (.irem, 1) := by decide +kernel
theorem dX10_byNow_262 : decode cX10_byNow 262 = .ok (.invokestatic 167, 3) := by decide +kernel
theorem dX10_byNow_265 : decode cX10_byNow 265 = .ok (.iaload, 1) := by decide +kernel
theorem dX10_byNow_266 : decode cX10_byNow 266 = .ok (.iconst 1, 1) := by decide +kernel
theorem dX10_byNow_267 : decode cX10_byNow 267 = .ok (.isub, 1) := by decide +kernel
theorem dX10_byNow_268 : decode cX10_byNow 268 = .ok (.istore_n 3, 1) := by decide +kernel
theorem dX10_byNow_269 : decode cX10_byNow 269 = .ok (.aload_n 0, 1) := by decide +kernel
theorem dX10_byNow_270 : decode cX10_byNow 270 = .ok (.getfield 36, 3) := by decide +kernel
theorem dX10_byNow_273 : decode cX10_byNow 273 = .ok (.iload_n 3, 1) := by decide +kernel
theorem dX10_byNow_274 : decode cX10_byNow 274 = .ok (.iaload, 1) := by decide +kernel
theorem dX10_byNow_275 : decode cX10_byNow 275 = .ok (.iconst 1, 1) := by decide +kernel
theorem dX10_byNow_276 : decode cX10_byNow 276 = .ok (.if_icmp .ne 30, 3) := by decide +kernel
theorem dX10_byNow_279 : decode cX10_byNow 279 = .ok (.aload_n 0, 1) := by decide +kernel
theorem dX10_byNow_280 : decode cX10_byNow 280 = .ok (.getfield 29, 3) := by decide +kernel
theorem dX10_byNow_283 : decode cX10_byNow 283 = .ok (.iload_n 3, 1) := by decide +kernel
theorem dX10_byNow_284 : decode cX10_byNow 284 = .ok (.iaload, 1) := by decide +kernel
theorem dX10_byNow_285 : decode cX10_byNow 285 = .ok (.iconst 1, 1) := by decide +kernel
theorem dX10_byNow_286 : decode cX10_byNow 286 = .ok (.if_icmp .ne 20, 3) := by decide +kernel
theorem dX10_byNow_289 : decode cX10_byNow 289 = .ok (.bipush 16, 2) := by decide +kernel
theorem dX10_byNow_291 : decode cX10_byNow 291 = .ok (.iload_n 2, 1) := by decide +kernel
theorem dX10_byNow_292 : decode cX10_byNow 292 = .ok (.aload_n 0, 1) := by decide +kernel
theorem dX10_byNow_293 : decode cX10_byNow 293 = .ok (.getfield 106, 3) := by decide +kernel
theorem dX10_byNow_296 : decode cX10_byNow 296 = .ok (.idiv, 1) := by decide +kernel
theorem dX10_byNow_297 : decode cX10_byNow 297 = .ok (.imul, 1) := by decide +kernel
theorem dX10_byNow_298 : decode cX10_byNow 298 = .ok (.iload_n 2, 1) := by decide +kernel
theorem dX10_byNow_299 : decode cX10_byNow 299 = .ok (.aload_n 0, 1) := by decide +kernel
theorem dX10_byNow_300 : decode cX10_byNow 300 = .ok (.getfield 106, 3) := by decide +kernel
theorem dX10_byNow_303 : decode cX10_byNow 303 = .ok (.irem, 1) := by decide +kernel
theorem dX10_byNow_304 : decode cX10_byNow 304 = .ok (.iadd, 1) := by decide +kernel
theorem dX10_byNow_305 : decode cX10_byNow 305 = .ok (.ireturn, 1) := by decide +kernel
theorem dX10_byNow_306 : decode cX10_byNow 306 = .ok (.iinc 2 1, 3) := by decide +kernel
theorem dX10_byNow_309 : decode cX10_byNow 309 = .ok (.goto (-103), 3) := by decide +kernel
theorem dX10_byNow_312 : decode cX10_byNow 312 = .ok (.iconst (-1), 1) := by decide +kernel
theorem dX10_byNow_313 : decode cX10_byNow 313 = .ok (.ireturn, 1) := by decide +kernel
set_option maxRecDepth 20000 in
theorem ggX10_by_X10_noAim : GoodIn wsX10_by wsX10_noAim := goodIn_r _ [5, 6, 7, 8, 9, 4, 10, 11, 62, 63, 64, 65, 66, 67, 68, 69, 70, 71, 72, 73, 74, 75, 76, 77, 78, 79, 80, 81, 82, 83, 84, 85, 86, 87, 88, 89, 90, 91, 92, 93, 94, 95] (by decide +kernel) (by decide +kernel)
set_option maxRecDepth 20000 in
theorem gX10_by_X10_noAim : GoodIn wsX10_by (wsV RX10 183 RX10 yX10_noAim wsX10_noAim) := goodIn_app (goodIn_of _ (by decide +kernel)) ggX10_by_X10_noAim
set_option maxRecDepth 20000 in
theorem ggX10_by_X10_layRow : GoodIn wsX10_by wsX10_layRow := goodIn_r _ [15, 16, 17, 18, 19, 11, 20, 21, 22, 4, 23, 24, 25, 26, 27, 28, 29, 30, 31, 32, 33, 34, 35, 36, 37, 38, 39, 40, 41, 42, 43, 44, 45, 46, 47, 48, 49, 50, 51, 52, 53, 54, 55, 56, 57, 62, 63, 64, 65, 66, 67, 68, 69, 70, 71, 72, 73, 74, 75, 76, 77, 78, 79, 80, 81, 82, 83, 84, 85, 86, 87, 88, 89, 90, 91, 92, 93, 94, 95] (by decide +kernel) (by decide +kernel)
set_option maxRecDepth 20000 in
theorem gX10_by_X10_layRow : GoodIn wsX10_by (wsV RX10 186 RX10 yX10_layRow wsX10_layRow) := goodIn_app (goodIn_of _ (by decide +kernel)) ggX10_by_X10_layRow
set_option maxRecDepth 20000 in
theorem ggX10_by_X10_byNow : GoodIn wsX10_by wsX10_byNow := goodIn_r _ [61, 17, 6, 16, 26, 11, 24, 18, 19, 27, 28, 29, 4, 30, 31, 32, 33, 34, 35, 36, 37, 38, 39, 40, 41, 42, 43, 44, 45, 46, 47, 48, 49, 50, 51, 52, 53, 54, 55, 56, 57, 62, 63, 64, 65, 66, 67, 68, 69, 70, 71, 72, 73, 74, 75, 76, 77, 78, 79, 80, 81, 82, 83, 84, 85, 86, 87, 88, 89, 90, 91, 92, 93, 94, 95] (by decide +kernel) (by decide +kernel)
set_option maxRecDepth 20000 in
theorem gX10_by_X10_byNow : GoodIn wsX10_by (wsV RX10 198 RX10 yX10_byNow wsX10_byNow) := goodIn_app (goodIn_of _ (by decide +kernel)) ggX10_by_X10_byNow
theorem dX10_by_0 : decode cX10_by 0 = .ok (.aload_n 0, 1) := by decide +kernel
theorem dX10_by_1 : decode cX10_by 1 = .ok (.invokevirtual 183, 3) := by decide +kernel
theorem dX10_by_4 : decode cX10_by 4 = .ok (.ifCond .eq 6, 3) := by decide +kernel
theorem dX10_by_7 : decode cX10_by 7 = .ok (.bipush (-103), 2) := by decide +kernel
theorem dX10_by_9 : decode cX10_by 9 = .ok (.ireturn, 1) := by decide +kernel
theorem dX10_by_10 : decode cX10_by 10 = .ok (.aload_n 0, 1) := by decide +kernel
theorem dX10_by_11 : decode cX10_by 11 = .ok (.invokevirtual 186, 3) := by decide +kernel
theorem dX10_by_14 : decode cX10_by 14 = .ok (.aload_n 0, 1) := by decide +kernel
theorem dX10_by_15 : decode cX10_by 15 = .ok (.invokevirtual 198, 3) := by decide +kernel
theorem dX10_by_18 : decode cX10_by 18 = .ok (.ireturn, 1) := by decide +kernel
set_option maxRecDepth 20000 in
theorem ggX10_reachNow_X10_manyOf : GoodIn wsX10_reachNow wsX10_manyOf := goodIn_r _ [8, 9, 10, 11, 12, 7, 13, 14, 15, 16, 17, 18, 19, 20, 21, 22, 23, 24, 25, 26, 27, 28, 29, 30, 31, 32, 33, 34, 35, 36, 37, 38, 39, 40, 41, 42, 43, 44, 45, 46, 47, 48, 49, 50, 51, 52, 53, 54, 55, 56, 57, 58, 59, 60, 61, 62, 63, 64, 65, 66, 67, 68, 69, 70, 71] (by decide +kernel) (by decide +kernel)
set_option maxRecDepth 20000 in
theorem gX10_reachNow_X10_manyOf : GoodIn wsX10_reachNow (wsV RX10 171 RX10 yX10_manyOf wsX10_manyOf) := goodIn_app (goodIn_of _ (by decide +kernel)) ggX10_reachNow_X10_manyOf
theorem dX10_reachNow_0 : decode cX10_reachNow 0 = .ok (.iload_n 1, 1) := by decide +kernel
theorem dX10_reachNow_1 : decode cX10_reachNow 1 = .ok (.ifCond .ne 8, 3) := by decide +kernel
theorem dX10_reachNow_4 : decode cX10_reachNow 4 = .ok (.aload_n 0, 1) := by decide +kernel
theorem dX10_reachNow_5 : decode cX10_reachNow 5 = .ok (.getfield 176, 3) := by decide +kernel
theorem dX10_reachNow_8 : decode cX10_reachNow 8 = .ok (.ireturn, 1) := by decide +kernel
theorem dX10_reachNow_9 : decode cX10_reachNow 9 = .ok (.iconst 0, 1) := by decide +kernel
theorem dX10_reachNow_10 : decode cX10_reachNow 10 = .ok (.istore_n 2, 1) := by decide +kernel
theorem dX10_reachNow_11 : decode cX10_reachNow 11 = .ok (.iconst 0, 1) := by decide +kernel
theorem dX10_reachNow_12 : decode cX10_reachNow 12 = .ok (.istore_n 3, 1) := by decide +kernel
theorem dX10_reachNow_13 : decode cX10_reachNow 13 = .ok (.iload_n 3, 1) := by decide +kernel
theorem dX10_reachNow_14 : decode cX10_reachNow 14 = .ok (.aload_n 0, 1) := by decide +kernel
theorem dX10_reachNow_15 : decode cX10_reachNow 15 = .ok (.getfield 176, 3) := by decide +kernel
theorem dX10_reachNow_18 : decode cX10_reachNow 18 = .ok (.if_icmp .ge 35, 3) := by decide +kernel
theorem dX10_reachNow_21 : decode cX10_reachNow 21 = .ok (.iload_n 1, 1) := by decide +kernel
theorem dX10_reachNow_22 : decode cX10_reachNow 22 = .ok (.iconst 1, 1) := by decide +kernel
theorem dX10_reachNow_23 : decode cX10_reachNow 23 = .ok (.if_icmp .ne 30, 3) := by decide +kernel
theorem dX10_reachNow_26 : decode cX10_reachNow 26 = .ok (.iload_n 2, 1) := by decide +kernel
theorem dX10_reachNow_27 : decode cX10_reachNow 27 = .ok (.aload_n 0, 1) := by decide +kernel
theorem dX10_reachNow_28 : decode cX10_reachNow 28 = .ok (.aload_n 0, 1) := by decide +kernel
theorem dX10_reachNow_29 : decode cX10_reachNow 29 = .ok (.getfield 26, 3) := by decide +kernel
theorem dX10_reachNow_32 : decode cX10_reachNow 32 = .ok (.iload_n 3, 1) := by decide +kernel
theorem dX10_reachNow_33 : decode cX10_reachNow 33 = .ok (.iaload, 1) := by decide +kernel
theorem dX10_reachNow_34 : decode cX10_reachNow 34 = .ok (.invokevirtual 171, 3) := by decide +kernel
theorem dX10_reachNow_37 : decode cX10_reachNow 37 = .ok (.ifCond .ne 7, 3) := by decide +kernel
theorem dX10_reachNow_40 : decode cX10_reachNow 40 = .ok (.iconst 1, 1) := by decide +kernel
theorem dX10_reachNow_41 : decode cX10_reachNow 41 = .ok (.goto 4, 3) := by decide +kernel
theorem dX10_reachNow_44 : decode cX10_reachNow 44 = .ok (.iconst 0, 1) := by decide +kernel
theorem dX10_reachNow_45 : decode cX10_reachNow 45 = .ok (.iadd, 1) := by decide +kernel
theorem dX10_reachNow_46 : decode cX10_reachNow 46 = .ok (.istore_n 2, 1) := by decide +kernel
theorem dX10_reachNow_47 : decode cX10_reachNow 47 = .ok (.iinc 3 1, 3) := by decide +kernel
theorem dX10_reachNow_50 : decode cX10_reachNow 50 = .ok (.goto (-37), 3) := by decide +kernel
theorem dX10_reachNow_53 : decode cX10_reachNow 53 = .ok (.iload_n 1, 1) := by decide +kernel
theorem dX10_reachNow_54 : decode cX10_reachNow 54 = .ok (.iconst 1, 1) := by decide +kernel
theorem dX10_reachNow_55 : decode cX10_reachNow 55 = .ok (.if_icmp .ne 7, 3) := by decide +kernel
theorem dX10_reachNow_58 : decode cX10_reachNow 58 = .ok (.iload_n 2, 1) := by decide +kernel
theorem dX10_reachNow_59 : decode cX10_reachNow 59 = .ok (.goto 14, 3) := by decide +kernel
theorem dX10_reachNow_62 : decode cX10_reachNow 62 = .ok (.aload_n 0, 1) := by decide +kernel
theorem dX10_reachNow_63 : decode cX10_reachNow 63 = .ok (.getfield 29, 3) := by decide +kernel
theorem dX10_reachNow_66 : decode cX10_reachNow 66 = .ok (.aload_n 0, 1) := by decide +kernel
theorem dX10_reachNow_67 : decode cX10_reachNow 67 = .ok (.getfield 176, 3) := by decide +kernel
theorem dX10_reachNow_70 : decode cX10_reachNow 70 = .ok (.iconst 1, 1) := by decide +kernel
theorem dX10_reachNow_71 : decode cX10_reachNow 71 = .ok (.isub, 1) := by decide +kernel
theorem dX10_reachNow_72 : decode cX10_reachNow 72 = .ok (.iaload, 1) := by decide +kernel
theorem dX10_reachNow_73 : decode cX10_reachNow 73 = .ok (.ireturn, 1) := by decide +kernel
set_option maxRecDepth 20000 in
theorem ggX10_reach_X10_lacks : GoodIn wsX10_reach wsX10_lacks := goodIn_r _ [6, 7, 65, 66, 67, 68, 69, 70, 71, 72, 73, 74, 75, 76, 77, 78, 79, 80, 81, 82, 83, 84, 85, 86, 87, 88, 89, 90, 91, 92, 93, 94, 95, 96, 97, 98] (by decide +kernel) (by decide +kernel)
set_option maxRecDepth 20000 in
theorem gX10_reach_X10_lacks : GoodIn wsX10_reach (wsV RX10 129 RX10 yX10_lacks wsX10_lacks) := goodIn_app (goodIn_of _ (by decide +kernel)) ggX10_reach_X10_lacks
set_option maxRecDepth 20000 in
theorem ggX10_reach_X10_in : GoodIn wsX10_reach wsX10_in := goodIn_r _ [10] (by decide +kernel) (by decide +kernel)
set_option maxRecDepth 20000 in
theorem gX10_reach_X10_in : GoodIn wsX10_reach (va_wsS RX10 92 yX10_in wsX10_in) := goodIn_app (goodIn_of _ (by decide +kernel)) ggX10_reach_X10_in
set_option maxRecDepth 20000 in
theorem ggX10_reach_X10_layRow : GoodIn wsX10_reach wsX10_layRow := goodIn_r _ [14, 15, 16, 17, 18, 7, 19, 20, 21, 5, 22, 23, 24, 25, 26, 27, 28, 29, 30, 31, 32, 33, 34, 35, 36, 37, 38, 39, 40, 41, 42, 43, 44, 45, 46, 47, 48, 49, 50, 51, 52, 53, 54, 55, 56, 65, 66, 67, 68, 69, 70, 71, 72, 73, 74, 75, 76, 77, 78, 79, 80, 81, 82, 83, 84, 85, 86, 87, 88, 89, 90, 91, 92, 93, 94, 95, 96, 97, 98] (by decide +kernel) (by decide +kernel)
set_option maxRecDepth 20000 in
theorem gX10_reach_X10_layRow : GoodIn wsX10_reach (wsV RX10 186 RX10 yX10_layRow wsX10_layRow) := goodIn_app (goodIn_of _ (by decide +kernel)) ggX10_reach_X10_layRow
set_option maxRecDepth 20000 in
theorem ggX10_reach_X10_reachNow : GoodIn wsX10_reach wsX10_reachNow := goodIn_r _ [60, 15, 17, 23, 61, 62, 63, 5, 64, 7, 26, 27, 28, 29, 30, 31, 32, 33, 34, 35, 36, 37, 38, 39, 40, 41, 42, 43, 44, 45, 46, 47, 48, 49, 50, 51, 52, 53, 65, 66, 67, 68, 69, 70, 71, 72, 73, 74, 75, 76, 77, 78, 79, 80, 81, 82, 83, 84, 85, 86, 87, 88, 89, 90, 91, 92, 93, 94, 95, 96, 97, 98] (by decide +kernel) (by decide +kernel)
set_option maxRecDepth 20000 in
theorem gX10_reach_X10_reachNow : GoodIn wsX10_reach (wsV RX10 203 RX10 yX10_reachNow wsX10_reachNow) := goodIn_app (goodIn_of _ (by decide +kernel)) ggX10_reach_X10_reachNow
theorem dX10_reach_0 : decode cX10_reach 0 = .ok (.aload_n 0, 1) := by decide +kernel
theorem dX10_reach_1 : decode cX10_reach 1 = .ok (.invokevirtual 129, 3) := by decide +kernel
theorem dX10_reach_4 : decode cX10_reach 4 = .ok (.ifCond .eq 6, 3) := by decide +kernel
theorem dX10_reach_7 : decode cX10_reach 7 = .ok (.bipush (-103), 2) := by decide +kernel
theorem dX10_reach_9 : decode cX10_reach 9 = .ok (.ireturn, 1) := by decide +kernel
theorem dX10_reach_10 : decode cX10_reach 10 = .ok (.iload_n 1, 1) := by decide +kernel
theorem dX10_reach_11 : decode cX10_reach 11 = .ok (.i2l, 1) := by decide +kernel
theorem dX10_reach_12 : decode cX10_reach 12 = .ok (.lconst 0, 1) := by decide +kernel
theorem dX10_reach_13 : decode cX10_reach 13 = .ok (.ldc2_w 201, 3) := by decide +kernel
theorem dX10_reach_16 : decode cX10_reach 16 = .ok (.invokestatic 92, 3) := by decide +kernel
theorem dX10_reach_19 : decode cX10_reach 19 = .ok (.ifCond .ne 6, 3) := by decide +kernel
theorem dX10_reach_22 : decode cX10_reach 22 = .ok (.bipush (-102), 2) := by decide +kernel
theorem dX10_reach_24 : decode cX10_reach 24 = .ok (.ireturn, 1) := by decide +kernel
theorem dX10_reach_25 : decode cX10_reach 25 = .ok (.aload_n 0, 1) := by decide +kernel
theorem dX10_reach_26 : decode cX10_reach 26 = .ok (.invokevirtual 186, 3) := by decide +kernel
theorem dX10_reach_29 : decode cX10_reach 29 = .ok (.aload_n 0, 1) := by decide +kernel
theorem dX10_reach_30 : decode cX10_reach 30 = .ok (.iload_n 1, 1) := by decide +kernel
theorem dX10_reach_31 : decode cX10_reach 31 = .ok (.invokevirtual 203, 3) := by decide +kernel
theorem dX10_reach_34 : decode cX10_reach 34 = .ok (.ireturn, 1) := by decide +kernel
set_option maxRecDepth 20000 in
theorem ggX10_isEnding_X10_lacks : GoodIn wsX10_isEnding wsX10_lacks := goodIn_r _ [7, 8, 13, 14, 15, 16, 17, 18, 19, 20, 21, 22, 23, 24, 25, 26, 27, 28, 29, 30, 31, 32, 33, 34, 35, 36, 37, 38, 39, 40, 41, 42, 43, 44, 45, 46] (by decide +kernel) (by decide +kernel)
set_option maxRecDepth 20000 in
theorem gX10_isEnding_X10_lacks : GoodIn wsX10_isEnding (wsV RX10 129 RX10 yX10_lacks wsX10_lacks) := goodIn_app (goodIn_of _ (by decide +kernel)) ggX10_isEnding_X10_lacks
set_option maxRecDepth 20000 in
theorem ggX10_isEnding_X10_howMany : GoodIn wsX10_isEnding wsX10_howMany := goodIn_r _ [12, 8, 13, 14, 15, 16, 17, 18, 19, 20, 21, 22, 23, 24, 25, 26, 27, 28, 29, 30, 31, 32, 33, 34, 35, 36, 37, 38, 39, 40, 41, 42, 43, 44, 45, 46] (by decide +kernel) (by decide +kernel)
set_option maxRecDepth 20000 in
theorem gX10_isEnding_X10_howMany : GoodIn wsX10_isEnding (wsV RX10 125 RX10 yX10_howMany wsX10_howMany) := goodIn_app (goodIn_of _ (by decide +kernel)) ggX10_isEnding_X10_howMany
theorem dX10_isEnding_0 : decode cX10_isEnding 0 = .ok (.aload_n 0, 1) := by decide +kernel
theorem dX10_isEnding_1 : decode cX10_isEnding 1 = .ok (.invokevirtual 129, 3) := by decide +kernel
theorem dX10_isEnding_4 : decode cX10_isEnding 4 = .ok (.ifCond .ne 28, 3) := by decide +kernel
theorem dX10_isEnding_7 : decode cX10_isEnding 7 = .ok (.aload_n 0, 1) := by decide +kernel
theorem dX10_isEnding_8 : decode cX10_isEnding 8 = .ok (.getfield 103, 3) := by decide +kernel
theorem dX10_isEnding_11 : decode cX10_isEnding 11 = .ok (.bipush 114, 2) := by decide +kernel
theorem dX10_isEnding_13 : decode cX10_isEnding 13 = .ok (.if_icmp .eq 19, 3) := by decide +kernel
theorem dX10_isEnding_16 : decode cX10_isEnding 16 = .ok (.aload_n 0, 1) := by decide +kernel
theorem dX10_isEnding_17 : decode cX10_isEnding 17 = .ok (.aload_n 0, 1) := by decide +kernel
theorem dX10_isEnding_18 : decode cX10_isEnding 18 = .ok (.getfield 116, 3) := by decide +kernel
theorem dX10_isEnding_21 : decode cX10_isEnding 21 = .ok (.iconst 3, 1) := by decide +kernel
theorem dX10_isEnding_22 : decode cX10_isEnding 22 = .ok (.invokevirtual 125, 3) := by decide +kernel
theorem dX10_isEnding_25 : decode cX10_isEnding 25 = .ok (.ifCond .ne 7, 3) := by decide +kernel
theorem dX10_isEnding_28 : decode cX10_isEnding 28 = .ok (.iconst 1, 1) := by decide +kernel
theorem dX10_isEnding_29 : decode cX10_isEnding 29 = .ok (.goto 4, 3) := by decide +kernel
theorem dX10_isEnding_32 : decode cX10_isEnding 32 = .ok (.iconst 0, 1) := by decide +kernel
theorem dX10_isEnding_33 : decode cX10_isEnding 33 = .ok (.ireturn, 1) := by decide +kernel
set_option maxRecDepth 20000 in
theorem ggX10_depthOf_X10_backOf : GoodIn wsX10_depthOf wsX10_backOf := goodIn_r _ [5, 6, 7, 8, 9, 10, 11, 12, 13, 14, 15, 16, 17, 18, 19, 20, 21, 22, 23, 24, 25, 26, 27, 28, 29, 30, 31, 32, 33, 34, 35, 36, 37, 38, 39, 40, 41, 42] (by decide +kernel) (by decide +kernel)
set_option maxRecDepth 20000 in
theorem gX10_depthOf_X10_backOf : GoodIn wsX10_depthOf (wsV RX10 142 RX10 yX10_backOf wsX10_backOf) := goodIn_app (goodIn_of _ (by decide +kernel)) ggX10_depthOf_X10_backOf
theorem dX10_depthOf_0 : decode cX10_depthOf 0 = .ok (.iconst 0, 1) := by decide +kernel
theorem dX10_depthOf_1 : decode cX10_depthOf 1 = .ok (.istore_n 2, 1) := by decide +kernel
theorem dX10_depthOf_2 : decode cX10_depthOf 2 = .ok (.iload_n 1, 1) := by decide +kernel
theorem dX10_depthOf_3 : decode cX10_depthOf 3 = .ok (.istore_n 3, 1) := by decide +kernel
theorem dX10_depthOf_4 : decode cX10_depthOf 4 = .ok (.aload_n 0, 1) := by decide +kernel
theorem dX10_depthOf_5 : decode cX10_depthOf 5 = .ok (.iload_n 3, 1) := by decide +kernel
theorem dX10_depthOf_6 : decode cX10_depthOf 6 = .ok (.invokevirtual 142, 3) := by decide +kernel
theorem dX10_depthOf_9 : decode cX10_depthOf 9 = .ok (.iconst (-1), 1) := by decide +kernel
theorem dX10_depthOf_10 : decode cX10_depthOf 10 = .ok (.if_icmp .eq 15, 3) := by decide +kernel
theorem dX10_depthOf_13 : decode cX10_depthOf 13 = .ok (.iinc 2 1, 3) := by decide +kernel
theorem dX10_depthOf_16 : decode cX10_depthOf 16 = .ok (.aload_n 0, 1) := by decide +kernel
theorem dX10_depthOf_17 : decode cX10_depthOf 17 = .ok (.iload_n 3, 1) := by decide +kernel
theorem dX10_depthOf_18 : decode cX10_depthOf 18 = .ok (.invokevirtual 142, 3) := by decide +kernel
theorem dX10_depthOf_21 : decode cX10_depthOf 21 = .ok (.istore_n 3, 1) := by decide +kernel
theorem dX10_depthOf_22 : decode cX10_depthOf 22 = .ok (.goto (-18), 3) := by decide +kernel
theorem dX10_depthOf_25 : decode cX10_depthOf 25 = .ok (.iload_n 2, 1) := by decide +kernel
theorem dX10_depthOf_26 : decode cX10_depthOf 26 = .ok (.ireturn, 1) := by decide +kernel
set_option maxRecDepth 20000 in
theorem ggX10_wentBy_X10_at : GoodIn wsX10_wentBy wsX10_at := goodIn_r _ [6] (by decide +kernel) (by decide +kernel)
set_option maxRecDepth 20000 in
theorem gX10_wentBy_X10_at : GoodIn wsX10_wentBy (wsV RX10 136 RX10 yX10_at wsX10_at) := goodIn_app (goodIn_of _ (by decide +kernel)) ggX10_wentBy_X10_at
set_option maxRecDepth 20000 in
theorem ggX10_wentBy_X10_depthOf : GoodIn wsX10_wentBy wsX10_depthOf := goodIn_r _ [10, 11, 12, 13, 5, 14, 15, 16, 1, 17, 18, 19, 20, 21, 22, 23, 24, 25, 26, 27, 28, 29, 30, 31, 32, 33, 34, 35, 36, 37, 38, 39, 40, 41, 42, 43, 44, 45, 46, 47, 48, 49, 50] (by decide +kernel) (by decide +kernel)
set_option maxRecDepth 20000 in
theorem gX10_wentBy_X10_depthOf : GoodIn wsX10_wentBy (wsV RX10 206 RX10 yX10_depthOf wsX10_depthOf) := goodIn_app (goodIn_of _ (by decide +kernel)) ggX10_wentBy_X10_depthOf
theorem dX10_wentBy_0 : decode cX10_wentBy 0 = .ok (.iconst 0, 1) := by decide +kernel
theorem dX10_wentBy_1 : decode cX10_wentBy 1 = .ok (.istore_n 2, 1) := by decide +kernel
theorem dX10_wentBy_2 : decode cX10_wentBy 2 = .ok (.iconst 0, 1) := by decide +kernel
theorem dX10_wentBy_3 : decode cX10_wentBy 3 = .ok (.istore_n 3, 1) := by decide +kernel
theorem dX10_wentBy_4 : decode cX10_wentBy 4 = .ok (.iload_n 3, 1) := by decide +kernel
theorem dX10_wentBy_5 : decode cX10_wentBy 5 = .ok (.aload_n 0, 1) := by decide +kernel
theorem dX10_wentBy_6 : decode cX10_wentBy 6 = .ok (.getfield 106, 3) := by decide +kernel
theorem dX10_wentBy_9 : decode cX10_wentBy 9 = .ok (.if_icmp .ge 50, 3) := by decide +kernel
theorem dX10_wentBy_12 : decode cX10_wentBy 12 = .ok (.iload_n 2, 1) := by decide +kernel
theorem dX10_wentBy_13 : decode cX10_wentBy 13 = .ok (.aload_n 0, 1) := by decide +kernel
theorem dX10_wentBy_14 : decode cX10_wentBy 14 = .ok (.iload_n 1, 1) := by decide +kernel
theorem dX10_wentBy_15 : decode cX10_wentBy 15 = .ok (.iload_n 3, 1) := by decide +kernel
theorem dX10_wentBy_16 : decode cX10_wentBy 16 = .ok (.invokevirtual 136, 3) := by decide +kernel
theorem dX10_wentBy_19 : decode cX10_wentBy 19 = .ok (.iconst 1, 1) := by decide +kernel
theorem dX10_wentBy_20 : decode cX10_wentBy 20 = .ok (.if_icmp .ne 11, 3) := by decide +kernel
theorem dX10_wentBy_23 : decode cX10_wentBy 23 = .ok (.aload_n 0, 1) := by decide +kernel
theorem dX10_wentBy_24 : decode cX10_wentBy 24 = .ok (.iload_n 3, 1) := by decide +kernel
theorem dX10_wentBy_25 : decode cX10_wentBy 25 = .ok (.invokevirtual 206, 3) := by decide +kernel
theorem dX10_wentBy_28 : decode cX10_wentBy 28 = .ok (.goto 23, 3) := by decide +kernel
theorem dX10_wentBy_31 : decode cX10_wentBy 31 = .ok (.aload_n 0, 1) := by decide +kernel
theorem dX10_wentBy_32 : decode cX10_wentBy 32 = .ok (.iload_n 1, 1) := by decide +kernel
theorem dX10_wentBy_33 : decode cX10_wentBy 33 = .ok (.iload_n 3, 1) := by decide +kernel
theorem dX10_wentBy_34 : decode cX10_wentBy 34 = .ok (.invokevirtual 136, 3) := by decide +kernel
theorem dX10_wentBy_37 : decode cX10_wentBy 37 = .ok (.iconst 2, 1) := by decide +kernel
theorem dX10_wentBy_38 : decode cX10_wentBy 38 = .ok (.if_icmp .ne 12, 3) := by decide +kernel
theorem dX10_wentBy_41 : decode cX10_wentBy 41 = .ok (.aload_n 0, 1) := by decide +kernel
theorem dX10_wentBy_42 : decode cX10_wentBy 42 = .ok (.iload_n 3, 1) := by decide +kernel
theorem dX10_wentBy_43 : decode cX10_wentBy 43 = .ok (.invokevirtual 206, 3) := by decide +kernel
theorem dX10_wentBy_46 : decode cX10_wentBy 46 = .ok (.ineg, 1) := by decide +kernel
theorem dX10_wentBy_47 : decode cX10_wentBy 47 = .ok (.goto 4, 3) := by decide +kernel
theorem dX10_wentBy_50 : decode cX10_wentBy 50 = .ok (.iconst 0, 1) := by decide +kernel
theorem dX10_wentBy_51 : decode cX10_wentBy 51 = .ok (.iadd, 1) := by decide +kernel
theorem dX10_wentBy_52 : decode cX10_wentBy 52 = .ok (.istore_n 2, 1) := by decide +kernel
theorem dX10_wentBy_53 : decode cX10_wentBy 53 = .ok (.iinc 3 1, 3) := by decide +kernel
theorem dX10_wentBy_56 : decode cX10_wentBy 56 = .ok (.goto (-52), 3) := by decide +kernel
theorem dX10_wentBy_59 : decode cX10_wentBy 59 = .ok (.iload_n 2, 1) := by decide +kernel
theorem dX10_wentBy_60 : decode cX10_wentBy 60 = .ok (.ireturn, 1) := by decide +kernel
set_option maxRecDepth 20000 in
theorem ggX10_longest_X10_isEnding : GoodIn wsX10_longest wsX10_isEnding := goodIn_r _ [10, 11, 12, 13, 14, 15, 9, 16, 2, 17, 18, 19, 20, 69, 70, 71, 72, 73, 74, 75, 76, 77, 78, 79, 80, 81, 82, 83, 84, 85, 86, 87, 88, 89, 90, 91, 92, 93, 94, 95, 96, 97, 98, 99, 100, 101, 102] (by decide +kernel) (by decide +kernel)
set_option maxRecDepth 20000 in
theorem gX10_longest_X10_isEnding : GoodIn wsX10_longest (wsV RX10 209 RX10 yX10_isEnding wsX10_isEnding) := goodIn_app (goodIn_of _ (by decide +kernel)) ggX10_longest_X10_isEnding
set_option maxRecDepth 20000 in
theorem ggX10_longest_X10_layRow : GoodIn wsX10_longest wsX10_layRow := goodIn_r _ [24, 1, 5, 3, 12, 2, 25, 26, 27, 9, 28, 29, 30, 4, 31, 32, 33, 34, 35, 36, 37, 38, 39, 40, 41, 42, 43, 44, 45, 46, 47, 48, 49, 50, 51, 11, 52, 53, 54, 55, 56, 57, 58, 59, 60, 69, 70, 71, 72, 73, 74, 75, 76, 77, 78, 79, 80, 81, 82, 83, 84, 85, 86, 87, 88, 89, 90, 91, 92, 93, 94, 95, 96, 97, 98, 99, 100, 101, 102] (by decide +kernel) (by decide +kernel)
set_option maxRecDepth 20000 in
theorem gX10_longest_X10_layRow : GoodIn wsX10_longest (wsV RX10 186 RX10 yX10_layRow wsX10_layRow) := goodIn_app (goodIn_of _ (by decide +kernel)) ggX10_longest_X10_layRow
set_option maxRecDepth 20000 in
theorem ggX10_longest_X10_wentBy : GoodIn wsX10_longest wsX10_wentBy := goodIn_r _ [64, 2, 36, 37, 38, 9, 39, 65, 66, 67, 68, 48, 49, 50, 51, 11, 52, 69, 70, 71, 72, 73, 74, 75, 76, 77, 78, 79, 80, 81, 82, 83, 84, 85, 86, 87, 88, 89, 90, 91, 92, 93, 94, 95, 96, 97, 98, 99, 100, 101, 102] (by decide +kernel) (by decide +kernel)
set_option maxRecDepth 20000 in
theorem gX10_longest_X10_wentBy : GoodIn wsX10_longest (wsV RX10 212 RX10 yX10_wentBy wsX10_wentBy) := goodIn_app (goodIn_of _ (by decide +kernel)) ggX10_longest_X10_wentBy
set_option maxRecDepth 20000 in
theorem ggX10_longest_X10_canGo : GoodIn wsX10_longest wsX10_canGo := goodIn_r _ [34, 35, 36, 37, 38, 9, 39, 40, 41, 42, 43, 44, 45, 46, 47, 48, 49, 50, 51, 11, 52, 2, 53, 54, 55, 56, 57, 69, 70, 71, 72, 73, 74, 75, 76, 77, 78, 79, 80, 81, 82, 83, 84, 85, 86, 87, 88, 89, 90, 91, 92, 93, 94, 95, 96, 97, 98, 99, 100, 101, 102] (by decide +kernel) (by decide +kernel)
set_option maxRecDepth 20000 in
theorem gX10_longest_X10_canGo : GoodIn wsX10_longest (wsV RX10 164 RX10 yX10_canGo wsX10_canGo) := goodIn_app (goodIn_of _ (by decide +kernel)) ggX10_longest_X10_canGo
set_option maxRecDepth 20000 in
theorem ggX10_longest_X10_moved : GoodIn wsX10_longest wsX10_moved := goodIn_r _ [60] (by decide +kernel) (by decide +kernel)
set_option maxRecDepth 20000 in
theorem gX10_longest_X10_moved : GoodIn wsX10_longest (va_wsS RX10 167 yX10_moved wsX10_moved) := goodIn_app (goodIn_of _ (by decide +kernel)) ggX10_longest_X10_moved
theorem dX10_longest_0 : decode cX10_longest 0 = .ok (.aload_n 0, 1) := by decide +kernel
theorem dX10_longest_1 : decode cX10_longest 1 = .ok (.invokevirtual 209, 3) := by decide +kernel
theorem dX10_longest_4 : decode cX10_longest 4 = .ok (.ifCond .ne 6, 3) := by decide +kernel
theorem dX10_longest_7 : decode cX10_longest 7 = .ok (.bipush (-103), 2) := by decide +kernel
theorem dX10_longest_9 : decode cX10_longest 9 = .ok (.ireturn, 1) := by decide +kernel
theorem dX10_longest_10 : decode cX10_longest 10 = .ok (.aload_n 0, 1) := by decide +kernel
theorem dX10_longest_11 : decode cX10_longest 11 = .ok (.invokevirtual 186, 3) := by decide +kernel
theorem dX10_longest_14 : decode cX10_longest 14 = .ok (.bipush 72, 2) := by decide +kernel
theorem dX10_longest_16 : decode cX10_longest 16 = .ok (.istore_n 1, 1) := by decide +kernel
theorem dX10_longest_17 : decode cX10_longest 17 = .ok (.iload_n 1, 1) := by decide +kernel
theorem dX10_longest_18 : decode cX10_longest 18 = .ok (.bipush (-72), 2) := by decide +kernel
theorem dX10_longest_20 : decode cX10_longest 20 = .ok (.if_icmp .lt 150, 3) := by decide +kernel
theorem dX10_longest_23 : decode cX10_longest 23 = .ok (.iconst 0, 1) := by decide +kernel
theorem dX10_longest_24 : decode cX10_longest 24 = .ok (.istore_n 2, 1) := by decide +kernel
theorem dX10_longest_25 : decode cX10_longest 25 = .ok (.iload_n 2, 1) := by decide +kernel
theorem dX10_longest_26 : decode cX10_longest 26 = .ok (.aload_n 0, 1) := by decide +kernel
theorem dX10_longest_27 : decode cX10_longest 27 = .ok (.getfield 176, 3) := by decide +kernel
theorem dX10_longest_30 : decode cX10_longest 30 = .ok (.if_icmp .ge 134, 3) := by decide +kernel
theorem dX10_longest_33 : decode cX10_longest 33 = .ok (.iconst 0, 1) := by decide +kernel
theorem dX10_longest_34 : decode cX10_longest 34 = .ok (.istore_n 3, 1) := by decide +kernel
theorem dX10_longest_35 : decode cX10_longest 35 = .ok (.iload_n 3, 1) := by decide +kernel
theorem dX10_longest_36 : decode cX10_longest 36 = .ok (.aload_n 0, 1) := by decide +kernel
theorem dX10_longest_37 : decode cX10_longest 37 = .ok (.getfield 106, 3) := by decide +kernel
theorem dX10_longest_40 : decode cX10_longest 40 = .ok (.aload_n 0, 1) := by decide +kernel
theorem dX10_longest_41 : decode cX10_longest 41 = .ok (.getfield 106, 3) := by decide +kernel
theorem dX10_longest_44 : decode cX10_longest 44 = .ok (.imul, 1) := by decide +kernel
theorem dX10_longest_45 : decode cX10_longest 45 = .ok (.if_icmp .ge 113, 3) := by decide +kernel
theorem dX10_longest_48 : decode cX10_longest 48 = .ok (.aload_n 0, 1) := by decide +kernel
theorem dX10_longest_49 : decode cX10_longest 49 = .ok (.aload_n 0, 1) := by decide +kernel
theorem dX10_longest_50 : decode cX10_longest 50 = .ok (.getfield 26, 3) := by decide +kernel
theorem dX10_longest_53 : decode cX10_longest 53 = .ok (.iload_n 2, 1) := by decide +kernel
theorem dX10_longest_54 : decode cX10_longest 54 = .ok (.iaload, 1) := by decide +kernel
theorem dX10_longest_55 : decode cX10_longest 55 = .ok (.invokevirtual 212, 3) := by decide +kernel
theorem dX10_longest_58 : decode cX10_longest 58 = .ok (.iload_n 1, 1) := by decide +kernel
theorem dX10_longest_59 : decode cX10_longest 59 = .ok (.if_icmp .ne 99, 3) := by decide +kernel
theorem dX10_longest_62 : decode cX10_longest 62 = .ok (.aload_n 0, 1) := by decide +kernel
theorem dX10_longest_63 : decode cX10_longest 63 = .ok (.aload_n 0, 1) := by decide +kernel
theorem dX10_longest_64 : decode cX10_longest 64 = .ok (.getfield 26, 3) := by decide +kernel
theorem dX10_longest_67 : decode cX10_longest 67 = .ok (.iload_n 2, 1) := by decide +kernel
theorem dX10_longest_68 : decode cX10_longest 68 = .ok (.iaload, 1) := by decide +kernel
theorem dX10_longest_69 : decode cX10_longest 69 = .ok (.iload_n 3, 1) := by decide +kernel
theorem dX10_longest_70 : decode cX10_longest 70 = .ok (.aload_n 0, 1) := by decide +kernel
theorem dX10_longest_71 : decode cX10_longest 71 = .ok (.getfield 106, 3) := by decide +kernel
theorem dX10_longest_74 : decode cX10_longest 74 = .ok (.idiv, 1) := by decide +kernel
theorem dX10_longest_75 : decode cX10_longest 75 = .ok (.iload_n 3, 1) := by decide +kernel
theorem dX10_longest_76 : decode cX10_longest 76 = .ok (.aload_n 0, 1) := by decide +kernel
theorem dX10_longest_77 : decode cX10_longest 77 = .ok (.getfield 106, 3) := by decide +kernel
theorem dX10_longest_80 : decode cX10_longest 80 = .ok (.irem, 1) := by decide +kernel
theorem dX10_longest_81 : decode cX10_longest 81 = .ok (.invokevirtual 164, 3) := by decide +kernel
theorem dX10_longest_84 : decode cX10_longest 84 = .ok (.ifCond .eq 68, 3) := by decide +kernel
theorem dX10_longest_87 : decode cX10_longest 87 = .ok (.iconst 1, 1) := by decide +kernel
theorem dX10_longest_88 : decode cX10_longest 88 = .ok (.aload_n 0, 1) := by decide +kernel
theorem dX10_longest_89 : decode cX10_longest 89 = .ok (.getfield 36, 3) := by decide +kernel
theorem dX10_longest_92 : decode cX10_longest 92 = .ok (.aload_n 0, 1) := by decide +kernel
theorem dX10_longest_93 : decode cX10_longest 93 = .ok (.getfield 23, 3) := by decide +kernel
theorem dX10_longest_96 : decode cX10_longest 96 = .ok (.aload_n 0, 1) := by decide +kernel
theorem dX10_longest_97 : decode cX10_longest 97 = .ok (.getfield 26, 3) := by decide +kernel
theorem dX10_longest_100 : decode cX10_longest 100 = .ok (.iload_n 2, 1) := by decide +kernel
theorem dX10_longest_101 : decode cX10_longest 101 = .ok (.iaload, 1) := by decide +kernel
theorem dX10_longest_102 : decode cX10_longest 102 = .ok (.iload_n 3, 1) := by decide +kernel
theorem dX10_longest_103 : decode cX10_longest 103 = .ok (.aload_n 0, 1) := by decide +kernel
theorem dX10_longest_104 : decode cX10_longest 104 = .ok (.getfield 106, 3) := by decide +kernel
theorem dX10_longest_107 : decode cX10_longest 107 = .ok (.idiv, 1) := by decide +kernel
theorem dX10_longest_108 : decode cX10_longest 108 = .ok (.iload_n 3, 1) := by decide +kernel
theorem dX10_longest_109 : decode cX10_longest 109 = .ok (.aload_n 0, 1) := by decide +kernel
theorem dX10_longest_110 : decode cX10_longest 110 = .ok (.getfield 106, 3) := by decide +kernel
theorem dX10_longest_113 : decode cX10_longest 113 = .ok (.irem, 1) := by decide +kernel
theorem dX10_longest_114 : decode cX10_longest 114 = .ok (.invokestatic 167, 3) := by decide +kernel
theorem dX10_longest_117 : decode cX10_longest 117 = .ok (.iaload, 1) := by decide +kernel
theorem dX10_longest_118 : decode cX10_longest 118 = .ok (.iconst 1, 1) := by decide +kernel
theorem dX10_longest_119 : decode cX10_longest 119 = .ok (.isub, 1) := by decide +kernel
theorem dX10_longest_120 : decode cX10_longest 120 = .ok (.iaload, 1) := by decide +kernel
theorem dX10_longest_121 : decode cX10_longest 121 = .ok (.iadd, 1) := by decide +kernel
theorem dX10_longest_122 : decode cX10_longest 122 = .ok (.istore 4, 2) := by decide +kernel
theorem dX10_longest_124 : decode cX10_longest 124 = .ok (.aload_n 0, 1) := by decide +kernel
theorem dX10_longest_125 : decode cX10_longest 125 = .ok (.getfield 36, 3) := by decide +kernel
theorem dX10_longest_128 : decode cX10_longest 128 = .ok (.iload_n 2, 1) := by decide +kernel
theorem dX10_longest_129 : decode cX10_longest 129 = .ok (.iload 4, 2) := by decide +kernel
theorem dX10_longest_131 : decode cX10_longest 131 = .ok (.aload_n 0, 1) := by decide +kernel
theorem dX10_longest_132 : decode cX10_longest 132 = .ok (.getfield 36, 3) := by decide +kernel
theorem dX10_longest_135 : decode cX10_longest 135 = .ok (.iload_n 2, 1) := by decide +kernel
theorem dX10_longest_136 : decode cX10_longest 136 = .ok (.iaload, 1) := by decide +kernel
theorem dX10_longest_137 : decode cX10_longest 137 = .ok (.if_icmp .le 8, 3) := by decide +kernel
theorem dX10_longest_140 : decode cX10_longest 140 = .ok (.iload 4, 2) := by decide +kernel
theorem dX10_longest_142 : decode cX10_longest 142 = .ok (.goto 9, 3) := by decide +kernel
theorem dX10_longest_145 : decode cX10_longest 145 = .ok (.aload_n 0, 1) := by decide +kernel
theorem dX10_longest_146 : decode cX10_longest 146 = .ok (.getfield 36, 3) := by decide +kernel
theorem dX10_longest_149 : decode cX10_longest 149 = .ok (.iload_n 2, 1) := by decide +kernel
theorem dX10_longest_150 : decode cX10_longest 150 = .ok (.iaload, 1) := by decide +kernel
theorem dX10_longest_151 : decode cX10_longest 151 = .ok (.iastore, 1) := by decide +kernel
theorem dX10_longest_152 : decode cX10_longest 152 = .ok (.iinc 3 1, 3) := by decide +kernel
theorem dX10_longest_155 : decode cX10_longest 155 = .ok (.goto (-120), 3) := by decide +kernel
theorem dX10_longest_158 : decode cX10_longest 158 = .ok (.iinc 2 1, 3) := by decide +kernel
theorem dX10_longest_161 : decode cX10_longest 161 = .ok (.goto (-136), 3) := by decide +kernel
theorem dX10_longest_164 : decode cX10_longest 164 = .ok (.iinc 1 (-1), 3) := by decide +kernel
theorem dX10_longest_167 : decode cX10_longest 167 = .ok (.goto (-150), 3) := by decide +kernel
theorem dX10_longest_170 : decode cX10_longest 170 = .ok (.aload_n 0, 1) := by decide +kernel
theorem dX10_longest_171 : decode cX10_longest 171 = .ok (.getfield 36, 3) := by decide +kernel
theorem dX10_longest_174 : decode cX10_longest 174 = .ok (.iconst 0, 1) := by decide +kernel
theorem dX10_longest_175 : decode cX10_longest 175 = .ok (.iaload, 1) := by decide +kernel
theorem dX10_longest_176 : decode cX10_longest 176 = .ok (.ireturn, 1) := by decide +kernel
set_option maxRecDepth 20000 in
theorem ggX10_winsBy_X10_at : GoodIn wsX10_winsBy wsX10_at := goodIn_r _ [8] (by decide +kernel) (by decide +kernel)
set_option maxRecDepth 20000 in
theorem gX10_winsBy_X10_at : GoodIn wsX10_winsBy (wsV RX10 136 RX10 yX10_at wsX10_at) := goodIn_app (goodIn_of _ (by decide +kernel)) ggX10_winsBy_X10_at
set_option maxRecDepth 20000 in
theorem ggX10_winsBy_X10_canGo : GoodIn wsX10_winsBy wsX10_canGo := goodIn_r _ [12, 13, 4, 5, 6, 7, 8, 14, 15, 16, 17, 18, 19, 20, 21, 22, 23, 24, 25, 26, 27, 1, 28, 29, 30, 31, 32, 36, 37, 38, 39, 40, 41, 42, 43, 44, 45, 46, 47, 48, 49, 50, 51, 52, 53, 54, 55, 56, 57, 58, 59, 60, 61, 62, 63, 64, 65, 66, 67, 68, 69] (by decide +kernel) (by decide +kernel)
set_option maxRecDepth 20000 in
theorem gX10_winsBy_X10_canGo : GoodIn wsX10_winsBy (wsV RX10 164 RX10 yX10_canGo wsX10_canGo) := goodIn_app (goodIn_of _ (by decide +kernel)) ggX10_winsBy_X10_canGo
set_option maxRecDepth 20000 in
theorem ggX10_winsBy_X10_moved : GoodIn wsX10_winsBy wsX10_moved := goodIn_r _ [35] (by decide +kernel) (by decide +kernel)
set_option maxRecDepth 20000 in
theorem gX10_winsBy_X10_moved : GoodIn wsX10_winsBy (va_wsS RX10 167 yX10_moved wsX10_moved) := goodIn_app (goodIn_of _ (by decide +kernel)) ggX10_winsBy_X10_moved
theorem dX10_winsBy_0 : decode cX10_winsBy 0 = .ok (.iconst 0, 1) := by decide +kernel
theorem dX10_winsBy_1 : decode cX10_winsBy 1 = .ok (.istore_n 3, 1) := by decide +kernel
theorem dX10_winsBy_2 : decode cX10_winsBy 2 = .ok (.iload_n 3, 1) := by decide +kernel
theorem dX10_winsBy_3 : decode cX10_winsBy 3 = .ok (.aload_n 0, 1) := by decide +kernel
theorem dX10_winsBy_4 : decode cX10_winsBy 4 = .ok (.getfield 106, 3) := by decide +kernel
theorem dX10_winsBy_7 : decode cX10_winsBy 7 = .ok (.aload_n 0, 1) := by decide +kernel
theorem dX10_winsBy_8 : decode cX10_winsBy 8 = .ok (.getfield 106, 3) := by decide +kernel
theorem dX10_winsBy_11 : decode cX10_winsBy 11 = .ok (.imul, 1) := by decide +kernel
theorem dX10_winsBy_12 : decode cX10_winsBy 12 = .ok (.if_icmp .ge 104, 3) := by decide +kernel
theorem dX10_winsBy_15 : decode cX10_winsBy 15 = .ok (.aload_n 0, 1) := by decide +kernel
theorem dX10_winsBy_16 : decode cX10_winsBy 16 = .ok (.iload_n 1, 1) := by decide +kernel
theorem dX10_winsBy_17 : decode cX10_winsBy 17 = .ok (.iload_n 3, 1) := by decide +kernel
theorem dX10_winsBy_18 : decode cX10_winsBy 18 = .ok (.aload_n 0, 1) := by decide +kernel
theorem dX10_winsBy_19 : decode cX10_winsBy 19 = .ok (.getfield 106, 3) := by decide +kernel
theorem dX10_winsBy_22 : decode cX10_winsBy 22 = .ok (.idiv, 1) := by decide +kernel
theorem dX10_winsBy_23 : decode cX10_winsBy 23 = .ok (.invokevirtual 136, 3) := by decide +kernel
theorem dX10_winsBy_26 : decode cX10_winsBy 26 = .ok (.iload_n 2, 1) := by decide +kernel
theorem dX10_winsBy_27 : decode cX10_winsBy 27 = .ok (.iconst 1, 1) := by decide +kernel
theorem dX10_winsBy_28 : decode cX10_winsBy 28 = .ok (.iadd, 1) := by decide +kernel
theorem dX10_winsBy_29 : decode cX10_winsBy 29 = .ok (.if_icmp .ne 81, 3) := by decide +kernel
theorem dX10_winsBy_32 : decode cX10_winsBy 32 = .ok (.aload_n 0, 1) := by decide +kernel
theorem dX10_winsBy_33 : decode cX10_winsBy 33 = .ok (.iload_n 1, 1) := by decide +kernel
theorem dX10_winsBy_34 : decode cX10_winsBy 34 = .ok (.iload_n 3, 1) := by decide +kernel
theorem dX10_winsBy_35 : decode cX10_winsBy 35 = .ok (.aload_n 0, 1) := by decide +kernel
theorem dX10_winsBy_36 : decode cX10_winsBy 36 = .ok (.getfield 106, 3) := by decide +kernel
theorem dX10_winsBy_39 : decode cX10_winsBy 39 = .ok (.idiv, 1) := by decide +kernel
theorem dX10_winsBy_40 : decode cX10_winsBy 40 = .ok (.iload_n 3, 1) := by decide +kernel
theorem dX10_winsBy_41 : decode cX10_winsBy 41 = .ok (.aload_n 0, 1) := by decide +kernel
theorem dX10_winsBy_42 : decode cX10_winsBy 42 = .ok (.getfield 106, 3) := by decide +kernel
theorem dX10_winsBy_45 : decode cX10_winsBy 45 = .ok (.irem, 1) := by decide +kernel
theorem dX10_winsBy_46 : decode cX10_winsBy 46 = .ok (.invokevirtual 164, 3) := by decide +kernel
theorem dX10_winsBy_49 : decode cX10_winsBy 49 = .ok (.ifCond .eq 61, 3) := by decide +kernel
theorem dX10_winsBy_52 : decode cX10_winsBy 52 = .ok (.aload_n 0, 1) := by decide +kernel
theorem dX10_winsBy_53 : decode cX10_winsBy 53 = .ok (.getfield 23, 3) := by decide +kernel
theorem dX10_winsBy_56 : decode cX10_winsBy 56 = .ok (.iload_n 1, 1) := by decide +kernel
theorem dX10_winsBy_57 : decode cX10_winsBy 57 = .ok (.iload_n 3, 1) := by decide +kernel
theorem dX10_winsBy_58 : decode cX10_winsBy 58 = .ok (.aload_n 0, 1) := by decide +kernel
theorem dX10_winsBy_59 : decode cX10_winsBy 59 = .ok (.getfield 106, 3) := by decide +kernel
theorem dX10_winsBy_62 : decode cX10_winsBy 62 = .ok (.idiv, 1) := by decide +kernel
theorem dX10_winsBy_63 : decode cX10_winsBy 63 = .ok (.iload_n 3, 1) := by decide +kernel
theorem dX10_winsBy_64 : decode cX10_winsBy 64 = .ok (.aload_n 0, 1) := by decide +kernel
theorem dX10_winsBy_65 : decode cX10_winsBy 65 = .ok (.getfield 106, 3) := by decide +kernel
theorem dX10_winsBy_68 : decode cX10_winsBy 68 = .ok (.irem, 1) := by decide +kernel
theorem dX10_winsBy_69 : decode cX10_winsBy 69 = .ok (.invokestatic 167, 3) := by decide +kernel
theorem dX10_winsBy_72 : decode cX10_winsBy 72 = .ok (.iaload, 1) := by decide +kernel
theorem dX10_winsBy_73 : decode cX10_winsBy 73 = .ok (.iconst 1, 1) := by decide +kernel
theorem dX10_winsBy_74 : decode cX10_winsBy 74 = .ok (.isub, 1) := by decide +kernel
theorem dX10_winsBy_75 : decode cX10_winsBy 75 = .ok (.istore 4, 2) := by decide +kernel
theorem dX10_winsBy_77 : decode cX10_winsBy 77 = .ok (.aload_n 0, 1) := by decide +kernel
theorem dX10_winsBy_78 : decode cX10_winsBy 78 = .ok (.getfield 36, 3) := by decide +kernel
theorem dX10_winsBy_81 : decode cX10_winsBy 81 = .ok (.iload 4, 2) := by decide +kernel
theorem dX10_winsBy_83 : decode cX10_winsBy 83 = .ok (.iaload, 1) := by decide +kernel
theorem dX10_winsBy_84 : decode cX10_winsBy 84 = .ok (.iconst 1, 1) := by decide +kernel
theorem dX10_winsBy_85 : decode cX10_winsBy 85 = .ok (.iload_n 2, 1) := by decide +kernel
theorem dX10_winsBy_86 : decode cX10_winsBy 86 = .ok (.isub, 1) := by decide +kernel
theorem dX10_winsBy_87 : decode cX10_winsBy 87 = .ok (.ishr, 1) := by decide +kernel
theorem dX10_winsBy_88 : decode cX10_winsBy 88 = .ok (.iconst 1, 1) := by decide +kernel
theorem dX10_winsBy_89 : decode cX10_winsBy 89 = .ok (.iand, 1) := by decide +kernel
theorem dX10_winsBy_90 : decode cX10_winsBy 90 = .ok (.ifCond .ne 20, 3) := by decide +kernel
theorem dX10_winsBy_93 : decode cX10_winsBy 93 = .ok (.bipush 16, 2) := by decide +kernel
theorem dX10_winsBy_95 : decode cX10_winsBy 95 = .ok (.iload_n 3, 1) := by decide +kernel
theorem dX10_winsBy_96 : decode cX10_winsBy 96 = .ok (.aload_n 0, 1) := by decide +kernel
theorem dX10_winsBy_97 : decode cX10_winsBy 97 = .ok (.getfield 106, 3) := by decide +kernel
theorem dX10_winsBy_100 : decode cX10_winsBy 100 = .ok (.idiv, 1) := by decide +kernel
theorem dX10_winsBy_101 : decode cX10_winsBy 101 = .ok (.imul, 1) := by decide +kernel
theorem dX10_winsBy_102 : decode cX10_winsBy 102 = .ok (.iload_n 3, 1) := by decide +kernel
theorem dX10_winsBy_103 : decode cX10_winsBy 103 = .ok (.aload_n 0, 1) := by decide +kernel
theorem dX10_winsBy_104 : decode cX10_winsBy 104 = .ok (.getfield 106, 3) := by decide +kernel
theorem dX10_winsBy_107 : decode cX10_winsBy 107 = .ok (.irem, 1) := by decide +kernel
theorem dX10_winsBy_108 : decode cX10_winsBy 108 = .ok (.iadd, 1) := by decide +kernel
theorem dX10_winsBy_109 : decode cX10_winsBy 109 = .ok (.ireturn, 1) := by decide +kernel
theorem dX10_winsBy_110 : decode cX10_winsBy 110 = .ok (.iinc 3 1, 3) := by decide +kernel
theorem dX10_winsBy_113 : decode cX10_winsBy 113 = .ok (.goto (-111), 3) := by decide +kernel
theorem dX10_winsBy_116 : decode cX10_winsBy 116 = .ok (.iconst (-1), 1) := by decide +kernel
theorem dX10_winsBy_117 : decode cX10_winsBy 117 = .ok (.ireturn, 1) := by decide +kernel
set_option maxRecDepth 20000 in
theorem ggX10_game_X10_isEnding : GoodIn wsX10_game wsX10_isEnding := goodIn_r _ [9, 10, 4, 11, 12, 13, 8, 14, 15, 16, 17, 18, 19, 76, 77, 78, 79, 80, 81, 82, 83, 84, 85, 86, 87, 88, 89, 90, 91, 92, 93, 94, 95, 96, 97, 98, 99, 100, 101, 102, 103, 104, 105, 106, 107, 108, 109] (by decide +kernel) (by decide +kernel)
set_option maxRecDepth 20000 in
theorem gX10_game_X10_isEnding : GoodIn wsX10_game (wsV RX10 209 RX10 yX10_isEnding wsX10_isEnding) := goodIn_app (goodIn_of _ (by decide +kernel)) ggX10_game_X10_isEnding
set_option maxRecDepth 20000 in
theorem ggX10_game_X10_in : GoodIn wsX10_game wsX10_in := goodIn_r _ [22] (by decide +kernel) (by decide +kernel)
set_option maxRecDepth 20000 in
theorem gX10_game_X10_in : GoodIn wsX10_game (va_wsS RX10 92 yX10_in wsX10_in) := goodIn_app (goodIn_of _ (by decide +kernel)) ggX10_game_X10_in
set_option maxRecDepth 20000 in
theorem ggX10_game_X10_layRow : GoodIn wsX10_game wsX10_layRow := goodIn_r _ [26, 1, 27, 2, 4, 15, 28, 29, 30, 8, 31, 32, 33, 3, 34, 35, 36, 37, 38, 39, 40, 41, 42, 43, 44, 45, 46, 47, 48, 49, 50, 51, 52, 53, 54, 10, 55, 56, 57, 58, 59, 60, 61, 62, 63, 76, 77, 78, 79, 80, 81, 82, 83, 84, 85, 86, 87, 88, 89, 90, 91, 92, 93, 94, 95, 96, 97, 98, 99, 100, 101, 102, 103, 104, 105, 106, 107, 108, 109] (by decide +kernel) (by decide +kernel)
set_option maxRecDepth 20000 in
theorem gX10_game_X10_layRow : GoodIn wsX10_game (wsV RX10 186 RX10 yX10_layRow wsX10_layRow) := goodIn_app (goodIn_of _ (by decide +kernel)) ggX10_game_X10_layRow
set_option maxRecDepth 20000 in
theorem ggX10_game_X10_wentBy : GoodIn wsX10_game wsX10_wentBy := goodIn_r _ [67, 15, 39, 40, 41, 8, 42, 68, 69, 70, 71, 51, 52, 53, 54, 10, 55, 76, 77, 78, 79, 80, 81, 82, 83, 84, 85, 86, 87, 88, 89, 90, 91, 92, 93, 94, 95, 96, 97, 98, 99, 100, 101, 102, 103, 104, 105, 106, 107, 108, 109] (by decide +kernel) (by decide +kernel)
set_option maxRecDepth 20000 in
theorem gX10_game_X10_wentBy : GoodIn wsX10_game (wsV RX10 212 RX10 yX10_wentBy wsX10_wentBy) := goodIn_app (goodIn_of _ (by decide +kernel)) ggX10_game_X10_wentBy
set_option maxRecDepth 20000 in
theorem ggX10_game_X10_winsBy : GoodIn wsX10_game wsX10_winsBy := goodIn_r _ [75, 15, 27, 3, 39, 40, 41, 8, 42, 34, 35, 36, 37, 38, 43, 44, 45, 46, 47, 48, 49, 50, 51, 52, 53, 54, 10, 55, 56, 57, 58, 59, 60, 61, 62, 63, 76, 77, 78, 79, 80, 81, 82, 83, 84, 85, 86, 87, 88, 89, 90, 91, 92, 93, 94, 95, 96, 97, 98, 99, 100, 101, 102, 103, 104, 105, 106, 107, 108, 109] (by decide +kernel) (by decide +kernel)
set_option maxRecDepth 20000 in
theorem gX10_game_X10_winsBy : GoodIn wsX10_game (wsV RX10 215 RX10 yX10_winsBy wsX10_winsBy) := goodIn_app (goodIn_of _ (by decide +kernel)) ggX10_game_X10_winsBy
theorem dX10_game_0 : decode cX10_game 0 = .ok (.aload_n 0, 1) := by decide +kernel
theorem dX10_game_1 : decode cX10_game 1 = .ok (.invokevirtual 209, 3) := by decide +kernel
theorem dX10_game_4 : decode cX10_game 4 = .ok (.ifCond .ne 6, 3) := by decide +kernel
theorem dX10_game_7 : decode cX10_game 7 = .ok (.bipush (-103), 2) := by decide +kernel
theorem dX10_game_9 : decode cX10_game 9 = .ok (.ireturn, 1) := by decide +kernel
theorem dX10_game_10 : decode cX10_game 10 = .ok (.iload_n 1, 1) := by decide +kernel
theorem dX10_game_11 : decode cX10_game 11 = .ok (.i2l, 1) := by decide +kernel
theorem dX10_game_12 : decode cX10_game 12 = .ok (.lconst 0, 1) := by decide +kernel
theorem dX10_game_13 : decode cX10_game 13 = .ok (.lconst 1, 1) := by decide +kernel
theorem dX10_game_14 : decode cX10_game 14 = .ok (.invokestatic 92, 3) := by decide +kernel
theorem dX10_game_17 : decode cX10_game 17 = .ok (.ifCond .eq 13, 3) := by decide +kernel
theorem dX10_game_20 : decode cX10_game 20 = .ok (.iload_n 2, 1) := by decide +kernel
theorem dX10_game_21 : decode cX10_game 21 = .ok (.i2l, 1) := by decide +kernel
theorem dX10_game_22 : decode cX10_game 22 = .ok (.lconst 0, 1) := by decide +kernel
theorem dX10_game_23 : decode cX10_game 23 = .ok (.lconst 1, 1) := by decide +kernel
theorem dX10_game_24 : decode cX10_game 24 = .ok (.invokestatic 92, 3) := by decide +kernel
theorem dX10_game_27 : decode cX10_game 27 = .ok (.ifCond .ne 6, 3) := by decide +kernel
theorem dX10_game_30 : decode cX10_game 30 = .ok (.bipush (-102), 2) := by decide +kernel
theorem dX10_game_32 : decode cX10_game 32 = .ok (.ireturn, 1) := by decide +kernel
theorem dX10_game_33 : decode cX10_game 33 = .ok (.aload_n 0, 1) := by decide +kernel
theorem dX10_game_34 : decode cX10_game 34 = .ok (.invokevirtual 186, 3) := by decide +kernel
theorem dX10_game_37 : decode cX10_game 37 = .ok (.bipush 72, 2) := by decide +kernel
theorem dX10_game_39 : decode cX10_game 39 = .ok (.istore_n 3, 1) := by decide +kernel
theorem dX10_game_40 : decode cX10_game 40 = .ok (.iload_n 3, 1) := by decide +kernel
theorem dX10_game_41 : decode cX10_game 41 = .ok (.bipush (-72), 2) := by decide +kernel
theorem dX10_game_43 : decode cX10_game 43 = .ok (.if_icmp .lt 92, 3) := by decide +kernel
theorem dX10_game_46 : decode cX10_game 46 = .ok (.iconst 0, 1) := by decide +kernel
theorem dX10_game_47 : decode cX10_game 47 = .ok (.istore 4, 2) := by decide +kernel
theorem dX10_game_49 : decode cX10_game 49 = .ok (.iload 4, 2) := by decide +kernel
theorem dX10_game_51 : decode cX10_game 51 = .ok (.aload_n 0, 1) := by decide +kernel
theorem dX10_game_52 : decode cX10_game 52 = .ok (.getfield 176, 3) := by decide +kernel
theorem dX10_game_55 : decode cX10_game 55 = .ok (.if_icmp .ge 74, 3) := by decide +kernel
theorem dX10_game_58 : decode cX10_game 58 = .ok (.aload_n 0, 1) := by decide +kernel
theorem dX10_game_59 : decode cX10_game 59 = .ok (.aload_n 0, 1) := by decide +kernel
theorem dX10_game_60 : decode cX10_game 60 = .ok (.getfield 26, 3) := by decide +kernel
theorem dX10_game_63 : decode cX10_game 63 = .ok (.iload 4, 2) := by decide +kernel
theorem dX10_game_65 : decode cX10_game 65 = .ok (.iaload, 1) := by decide +kernel
theorem dX10_game_66 : decode cX10_game 66 = .ok (.invokevirtual 212, 3) := by decide +kernel
theorem dX10_game_69 : decode cX10_game 69 = .ok (.iload_n 3, 1) := by decide +kernel
theorem dX10_game_70 : decode cX10_game 70 = .ok (.if_icmp .ne 53, 3) := by decide +kernel
theorem dX10_game_73 : decode cX10_game 73 = .ok (.aload_n 0, 1) := by decide +kernel
theorem dX10_game_74 : decode cX10_game 74 = .ok (.getfield 36, 3) := by decide +kernel
theorem dX10_game_77 : decode cX10_game 77 = .ok (.iload 4, 2) := by decide +kernel
theorem dX10_game_79 : decode cX10_game 79 = .ok (.aload_n 0, 1) := by decide +kernel
theorem dX10_game_80 : decode cX10_game 80 = .ok (.aload_n 0, 1) := by decide +kernel
theorem dX10_game_81 : decode cX10_game 81 = .ok (.getfield 26, 3) := by decide +kernel
theorem dX10_game_84 : decode cX10_game 84 = .ok (.iload 4, 2) := by decide +kernel
theorem dX10_game_86 : decode cX10_game 86 = .ok (.iaload, 1) := by decide +kernel
theorem dX10_game_87 : decode cX10_game 87 = .ok (.iconst 0, 1) := by decide +kernel
theorem dX10_game_88 : decode cX10_game 88 = .ok (.invokevirtual 215, 3) := by decide +kernel
theorem dX10_game_91 : decode cX10_game 91 = .ok (.iconst (-1), 1) := by decide +kernel
theorem dX10_game_92 : decode cX10_game 92 = .ok (.if_icmp .ne 7, 3) := by decide +kernel
theorem dX10_game_95 : decode cX10_game 95 = .ok (.iconst 0, 1) := by decide +kernel
theorem dX10_game_96 : decode cX10_game 96 = .ok (.goto 4, 3) := by decide +kernel
theorem dX10_game_99 : decode cX10_game 99 = .ok (.iconst 1, 1) := by decide +kernel
theorem dX10_game_100 : decode cX10_game 100 = .ok (.aload_n 0, 1) := by decide +kernel
theorem dX10_game_101 : decode cX10_game 101 = .ok (.aload_n 0, 1) := by decide +kernel
theorem dX10_game_102 : decode cX10_game 102 = .ok (.getfield 26, 3) := by decide +kernel
theorem dX10_game_105 : decode cX10_game 105 = .ok (.iload 4, 2) := by decide +kernel
theorem dX10_game_107 : decode cX10_game 107 = .ok (.iaload, 1) := by decide +kernel
theorem dX10_game_108 : decode cX10_game 108 = .ok (.iconst 1, 1) := by decide +kernel
theorem dX10_game_109 : decode cX10_game 109 = .ok (.invokevirtual 215, 3) := by decide +kernel
theorem dX10_game_112 : decode cX10_game 112 = .ok (.iconst (-1), 1) := by decide +kernel
theorem dX10_game_113 : decode cX10_game 113 = .ok (.if_icmp .ne 7, 3) := by decide +kernel
theorem dX10_game_116 : decode cX10_game 116 = .ok (.iconst 0, 1) := by decide +kernel
theorem dX10_game_117 : decode cX10_game 117 = .ok (.goto 4, 3) := by decide +kernel
theorem dX10_game_120 : decode cX10_game 120 = .ok (.iconst 2, 1) := by decide +kernel
theorem dX10_game_121 : decode cX10_game 121 = .ok (.ior, 1) := by decide +kernel
theorem dX10_game_122 : decode cX10_game 122 = .ok (.iastore, 1) := by decide +kernel
theorem dX10_game_123 : decode cX10_game 123 = .ok (.iinc 4 1, 3) := by decide +kernel
theorem dX10_game_126 : decode cX10_game 126 = .ok (.goto (-77), 3) := by decide +kernel
theorem dX10_game_129 : decode cX10_game 129 = .ok (.iinc 3 (-1), 3) := by decide +kernel
theorem dX10_game_132 : decode cX10_game 132 = .ok (.goto (-92), 3) := by decide +kernel
theorem dX10_game_135 : decode cX10_game 135 = .ok (.aload_n 0, 1) := by decide +kernel
theorem dX10_game_136 : decode cX10_game 136 = .ok (.aload_n 0, 1) := by decide +kernel
theorem dX10_game_137 : decode cX10_game 137 = .ok (.getfield 116, 3) := by decide +kernel
theorem dX10_game_140 : decode cX10_game 140 = .ok (.iload_n 1, 1) := by decide +kernel
theorem dX10_game_141 : decode cX10_game 141 = .ok (.invokevirtual 215, 3) := by decide +kernel
theorem dX10_game_144 : decode cX10_game 144 = .ok (.istore_n 3, 1) := by decide +kernel
theorem dX10_game_145 : decode cX10_game 145 = .ok (.iload_n 2, 1) := by decide +kernel
theorem dX10_game_146 : decode cX10_game 146 = .ok (.iconst 1, 1) := by decide +kernel
theorem dX10_game_147 : decode cX10_game 147 = .ok (.if_icmp .ne 7, 3) := by decide +kernel
theorem dX10_game_150 : decode cX10_game 150 = .ok (.iload_n 3, 1) := by decide +kernel
theorem dX10_game_151 : decode cX10_game 151 = .ok (.goto 13, 3) := by decide +kernel
theorem dX10_game_154 : decode cX10_game 154 = .ok (.iload_n 3, 1) := by decide +kernel
theorem dX10_game_155 : decode cX10_game 155 = .ok (.iconst (-1), 1) := by decide +kernel
theorem dX10_game_156 : decode cX10_game 156 = .ok (.if_icmp .ne 7, 3) := by decide +kernel
theorem dX10_game_159 : decode cX10_game 159 = .ok (.iconst 0, 1) := by decide +kernel
theorem dX10_game_160 : decode cX10_game 160 = .ok (.goto 4, 3) := by decide +kernel
theorem dX10_game_163 : decode cX10_game 163 = .ok (.iconst 1, 1) := by decide +kernel
theorem dX10_game_164 : decode cX10_game 164 = .ok (.ireturn, 1) := by decide +kernel
set_option maxRecDepth 20000 in
theorem ggX10_letGo_X10_at : GoodIn wsX10_letGo wsX10_at := goodIn_r _ [6] (by decide +kernel) (by decide +kernel)
set_option maxRecDepth 20000 in
theorem gX10_letGo_X10_at : GoodIn wsX10_letGo (wsV RX10 136 RX10 yX10_at wsX10_at) := goodIn_app (goodIn_of _ (by decide +kernel)) ggX10_letGo_X10_at
set_option maxRecDepth 20000 in
theorem ggX10_letGo_X10_canGo : GoodIn wsX10_letGo wsX10_canGo := goodIn_r _ [10, 11, 2, 3, 4, 5, 6, 12, 13, 14, 15, 16, 17, 18, 19, 20, 21, 22, 23, 24, 25, 1, 26, 27, 28, 29, 30, 34, 35, 36, 37, 38, 39, 40, 41, 42, 43, 44, 45, 46, 47, 48, 49, 50, 51, 52, 53, 54, 55, 56, 57, 58, 59, 60, 61, 62, 63, 64, 65, 66, 67] (by decide +kernel) (by decide +kernel)
set_option maxRecDepth 20000 in
theorem gX10_letGo_X10_canGo : GoodIn wsX10_letGo (wsV RX10 164 RX10 yX10_canGo wsX10_canGo) := goodIn_app (goodIn_of _ (by decide +kernel)) ggX10_letGo_X10_canGo
set_option maxRecDepth 20000 in
theorem ggX10_letGo_X10_moved : GoodIn wsX10_letGo wsX10_moved := goodIn_r _ [33] (by decide +kernel) (by decide +kernel)
set_option maxRecDepth 20000 in
theorem gX10_letGo_X10_moved : GoodIn wsX10_letGo (va_wsS RX10 167 yX10_moved wsX10_moved) := goodIn_app (goodIn_of _ (by decide +kernel)) ggX10_letGo_X10_moved
theorem dX10_letGo_0 : decode cX10_letGo 0 = .ok (.iconst 0, 1) := by decide +kernel
theorem dX10_letGo_1 : decode cX10_letGo 1 = .ok (.istore_n 3, 1) := by decide +kernel
theorem dX10_letGo_2 : decode cX10_letGo 2 = .ok (.iconst 0, 1) := by decide +kernel
theorem dX10_letGo_3 : decode cX10_letGo 3 = .ok (.istore 4, 2) := by decide +kernel
theorem dX10_letGo_5 : decode cX10_letGo 5 = .ok (.iload 4, 2) := by decide +kernel
theorem dX10_letGo_7 : decode cX10_letGo 7 = .ok (.aload_n 0, 1) := by decide +kernel
theorem dX10_letGo_8 : decode cX10_letGo 8 = .ok (.getfield 106, 3) := by decide +kernel
theorem dX10_letGo_11 : decode cX10_letGo 11 = .ok (.if_icmp .ge 66, 3) := by decide +kernel
theorem dX10_letGo_14 : decode cX10_letGo 14 = .ok (.aload_n 0, 1) := by decide +kernel
theorem dX10_letGo_15 : decode cX10_letGo 15 = .ok (.iload_n 1, 1) := by decide +kernel
theorem dX10_letGo_16 : decode cX10_letGo 16 = .ok (.iload 4, 2) := by decide +kernel
theorem dX10_letGo_18 : decode cX10_letGo 18 = .ok (.invokevirtual 136, 3) := by decide +kernel
theorem dX10_letGo_21 : decode cX10_letGo 21 = .ok (.ifCond .le 50, 3) := by decide +kernel
theorem dX10_letGo_24 : decode cX10_letGo 24 = .ok (.iconst 0, 1) := by decide +kernel
theorem dX10_letGo_25 : decode cX10_letGo 25 = .ok (.istore 5, 2) := by decide +kernel
theorem dX10_letGo_27 : decode cX10_letGo 27 = .ok (.iload 5, 2) := by decide +kernel
theorem dX10_letGo_29 : decode cX10_letGo 29 = .ok (.aload_n 0, 1) := by decide +kernel
theorem dX10_letGo_30 : decode cX10_letGo 30 = .ok (.getfield 106, 3) := by decide +kernel
theorem dX10_letGo_33 : decode cX10_letGo 33 = .ok (.if_icmp .ge 35, 3) := by decide +kernel
theorem dX10_letGo_36 : decode cX10_letGo 36 = .ok (.iload_n 3, 1) := by decide +kernel
theorem dX10_letGo_37 : decode cX10_letGo 37 = .ok (.iload_n 2, 1) := by decide +kernel
theorem dX10_letGo_38 : decode cX10_letGo 38 = .ok (.if_icmp .ne 30, 3) := by decide +kernel
theorem dX10_letGo_41 : decode cX10_letGo 41 = .ok (.aload_n 0, 1) := by decide +kernel
theorem dX10_letGo_42 : decode cX10_letGo 42 = .ok (.iload_n 1, 1) := by decide +kernel
theorem dX10_letGo_43 : decode cX10_letGo 43 = .ok (.iload 4, 2) := by decide +kernel
theorem dX10_letGo_45 : decode cX10_letGo 45 = .ok (.iload 5, 2) := by decide +kernel
theorem dX10_letGo_47 : decode cX10_letGo 47 = .ok (.invokevirtual 164, 3) := by decide +kernel
theorem dX10_letGo_50 : decode cX10_letGo 50 = .ok (.ifCond .eq 12, 3) := by decide +kernel
theorem dX10_letGo_53 : decode cX10_letGo 53 = .ok (.iload_n 1, 1) := by decide +kernel
theorem dX10_letGo_54 : decode cX10_letGo 54 = .ok (.iload 4, 2) := by decide +kernel
theorem dX10_letGo_56 : decode cX10_letGo 56 = .ok (.iload 5, 2) := by decide +kernel
theorem dX10_letGo_58 : decode cX10_letGo 58 = .ok (.invokestatic 167, 3) := by decide +kernel
theorem dX10_letGo_61 : decode cX10_letGo 61 = .ok (.ireturn, 1) := by decide +kernel
theorem dX10_letGo_62 : decode cX10_letGo 62 = .ok (.iinc 5 1, 3) := by decide +kernel
theorem dX10_letGo_65 : decode cX10_letGo 65 = .ok (.goto (-38), 3) := by decide +kernel
theorem dX10_letGo_68 : decode cX10_letGo 68 = .ok (.iinc 3 1, 3) := by decide +kernel
theorem dX10_letGo_71 : decode cX10_letGo 71 = .ok (.iinc 4 1, 3) := by decide +kernel
theorem dX10_letGo_74 : decode cX10_letGo 74 = .ok (.goto (-69), 3) := by decide +kernel
theorem dX10_letGo_77 : decode cX10_letGo 77 = .ok (.iload_n 1, 1) := by decide +kernel
theorem dX10_letGo_78 : decode cX10_letGo 78 = .ok (.ireturn, 1) := by decide +kernel
theorem dX10_common_0 : decode cX10_common 0 = .ok (.iload_n 0, 1) := by decide +kernel
theorem dX10_common_1 : decode cX10_common 1 = .ok (.istore_n 2, 1) := by decide +kernel
theorem dX10_common_2 : decode cX10_common 2 = .ok (.iload_n 1, 1) := by decide +kernel
theorem dX10_common_3 : decode cX10_common 3 = .ok (.istore_n 3, 1) := by decide +kernel
theorem dX10_common_4 : decode cX10_common 4 = .ok (.iload_n 2, 1) := by decide +kernel
theorem dX10_common_5 : decode cX10_common 5 = .ok (.ifCond .eq 16, 3) := by decide +kernel
theorem dX10_common_8 : decode cX10_common 8 = .ok (.iload_n 3, 1) := by decide +kernel
theorem dX10_common_9 : decode cX10_common 9 = .ok (.iload_n 2, 1) := by decide +kernel
theorem dX10_common_10 : decode cX10_common 10 = .ok (.irem, 1) := by decide +kernel
theorem dX10_common_11 : decode cX10_common 11 = .ok (.istore 4, 2) := by decide +kernel
theorem dX10_common_13 : decode cX10_common 13 = .ok (.iload_n 2, 1) := by decide +kernel
theorem dX10_common_14 : decode cX10_common 14 = .ok (.istore_n 3, 1) := by decide +kernel
theorem dX10_common_15 : decode cX10_common 15 = .ok (.iload 4, 2) := by decide +kernel
theorem dX10_common_17 : decode cX10_common 17 = .ok (.istore_n 2, 1) := by decide +kernel
theorem dX10_common_18 : decode cX10_common 18 = .ok (.goto (-14), 3) := by decide +kernel
theorem dX10_common_21 : decode cX10_common 21 = .ok (.iload_n 3, 1) := by decide +kernel
theorem dX10_common_22 : decode cX10_common 22 = .ok (.ireturn, 1) := by decide +kernel
set_option maxRecDepth 20000 in
theorem ggX10_luck_X10_noAim : GoodIn wsX10_luck wsX10_noAim := goodIn_r _ [12, 7, 13, 14, 15, 11, 16, 17, 79, 80, 81, 82, 83, 84, 85, 86, 87, 88, 89, 90, 91, 92, 93, 94, 95, 96, 97, 98, 99, 100, 101, 102, 103, 104, 105, 106, 107, 108, 109, 110, 111, 112] (by decide +kernel) (by decide +kernel)
set_option maxRecDepth 20000 in
theorem gX10_luck_X10_noAim : GoodIn wsX10_luck (wsV RX10 183 RX10 yX10_noAim wsX10_noAim) := goodIn_app (goodIn_of _ (by decide +kernel)) ggX10_luck_X10_noAim
set_option maxRecDepth 20000 in
theorem ggX10_luck_X10_frogs : GoodIn wsX10_luck wsX10_frogs := goodIn_r _ [21, 17, 22, 23, 24, 25, 11, 26, 79, 80, 81, 82, 83, 84, 85, 86, 87, 88, 89, 90, 91, 92, 93, 94, 95, 96, 97, 98, 99, 100, 101, 102, 103, 104, 105, 106, 107, 108, 109, 110, 111, 112] (by decide +kernel) (by decide +kernel)
set_option maxRecDepth 20000 in
theorem gX10_luck_X10_frogs : GoodIn wsX10_luck (wsV RX10 133 RX10 yX10_frogs wsX10_frogs) := goodIn_app (goodIn_of _ (by decide +kernel)) ggX10_luck_X10_frogs
set_option maxRecDepth 20000 in
theorem ggX10_luck_X10_in : GoodIn wsX10_luck wsX10_in := goodIn_r _ [29] (by decide +kernel) (by decide +kernel)
set_option maxRecDepth 20000 in
theorem gX10_luck_X10_in : GoodIn wsX10_luck (va_wsS RX10 92 yX10_in wsX10_in) := goodIn_app (goodIn_of _ (by decide +kernel)) ggX10_luck_X10_in
set_option maxRecDepth 20000 in
theorem ggX10_luck_X10_layRow : GoodIn wsX10_luck wsX10_layRow := goodIn_r _ [33, 2, 5, 6, 22, 17, 34, 35, 36, 11, 37, 38, 39, 40, 41, 42, 43, 44, 45, 46, 47, 48, 49, 50, 51, 52, 53, 54, 55, 56, 57, 58, 59, 60, 61, 62, 63, 64, 65, 66, 67, 68, 69, 70, 71, 79, 80, 81, 82, 83, 84, 85, 86, 87, 88, 89, 90, 91, 92, 93, 94, 95, 96, 97, 98, 99, 100, 101, 102, 103, 104, 105, 106, 107, 108, 109, 110, 111, 112] (by decide +kernel) (by decide +kernel)
set_option maxRecDepth 20000 in
theorem gX10_luck_X10_layRow : GoodIn wsX10_luck (wsV RX10 186 RX10 yX10_layRow wsX10_layRow) := goodIn_app (goodIn_of _ (by decide +kernel)) ggX10_luck_X10_layRow
set_option maxRecDepth 20000 in
theorem ggX10_luck_X10_letGo : GoodIn wsX10_luck wsX10_letGo := goodIn_r _ [75, 17, 46, 47, 48, 11, 49, 41, 42, 43, 44, 45, 50, 51, 52, 53, 54, 55, 56, 57, 58, 59, 60, 61, 62, 63, 64, 65, 66, 67, 68, 69, 70, 71, 79, 80, 81, 82, 83, 84, 85, 86, 87, 88, 89, 90, 91, 92, 93, 94, 95, 96, 97, 98, 99, 100, 101, 102, 103, 104, 105, 106, 107, 108, 109, 110, 111, 112] (by decide +kernel) (by decide +kernel)
set_option maxRecDepth 20000 in
theorem gX10_luck_X10_letGo : GoodIn wsX10_luck (wsV RX10 220 RX10 yX10_letGo wsX10_letGo) := goodIn_app (goodIn_of _ (by decide +kernel)) ggX10_luck_X10_letGo
set_option maxRecDepth 20000 in
theorem ggX10_luck_X10_common : GoodIn wsX10_luck wsX10_common := goodIn_r _ [78] (by decide +kernel) (by decide +kernel)
set_option maxRecDepth 20000 in
theorem gX10_luck_X10_common : GoodIn wsX10_luck (va_wsS RX10 223 yX10_common wsX10_common) := goodIn_app (goodIn_of _ (by decide +kernel)) ggX10_luck_X10_common
theorem dX10_luck_0 : decode cX10_luck 0 = .ok (.aload_n 0, 1) := by decide +kernel
theorem dX10_luck_1 : decode cX10_luck 1 = .ok (.invokevirtual 183, 3) := by decide +kernel
theorem dX10_luck_4 : decode cX10_luck 4 = .ok (.ifCond .ne 10, 3) := by decide +kernel
theorem dX10_luck_7 : decode cX10_luck 7 = .ok (.aload_n 0, 1) := by decide +kernel
theorem dX10_luck_8 : decode cX10_luck 8 = .ok (.invokevirtual 133, 3) := by decide +kernel
theorem dX10_luck_11 : decode cX10_luck 11 = .ok (.ifCond .ne 6, 3) := by decide +kernel
theorem dX10_luck_14 : decode cX10_luck 14 = .ok (.bipush (-103), 2) := by decide +kernel
theorem dX10_luck_16 : decode cX10_luck 16 = .ok (.ireturn, 1) := by decide +kernel
theorem dX10_luck_17 : decode cX10_luck 17 = .ok (.iload_n 1, 1) := by decide +kernel
theorem dX10_luck_18 : decode cX10_luck 18 = .ok (.i2l, 1) := by decide +kernel
theorem dX10_luck_19 : decode cX10_luck 19 = .ok (.lconst 0, 1) := by decide +kernel
theorem dX10_luck_20 : decode cX10_luck 20 = .ok (.ldc2_w 218, 3) := by decide +kernel
theorem dX10_luck_23 : decode cX10_luck 23 = .ok (.invokestatic 92, 3) := by decide +kernel
theorem dX10_luck_26 : decode cX10_luck 26 = .ok (.ifCond .eq 13, 3) := by decide +kernel
theorem dX10_luck_29 : decode cX10_luck 29 = .ok (.iload_n 2, 1) := by decide +kernel
theorem dX10_luck_30 : decode cX10_luck 30 = .ok (.i2l, 1) := by decide +kernel
theorem dX10_luck_31 : decode cX10_luck 31 = .ok (.lconst 0, 1) := by decide +kernel
theorem dX10_luck_32 : decode cX10_luck 32 = .ok (.lconst 1, 1) := by decide +kernel
theorem dX10_luck_33 : decode cX10_luck 33 = .ok (.invokestatic 92, 3) := by decide +kernel
theorem dX10_luck_36 : decode cX10_luck 36 = .ok (.ifCond .ne 6, 3) := by decide +kernel
theorem dX10_luck_39 : decode cX10_luck 39 = .ok (.bipush (-102), 2) := by decide +kernel
theorem dX10_luck_41 : decode cX10_luck 41 = .ok (.ireturn, 1) := by decide +kernel
theorem dX10_luck_42 : decode cX10_luck 42 = .ok (.aload_n 0, 1) := by decide +kernel
theorem dX10_luck_43 : decode cX10_luck 43 = .ok (.invokevirtual 186, 3) := by decide +kernel
theorem dX10_luck_46 : decode cX10_luck 46 = .ok (.iconst 0, 1) := by decide +kernel
theorem dX10_luck_47 : decode cX10_luck 47 = .ok (.istore_n 3, 1) := by decide +kernel
theorem dX10_luck_48 : decode cX10_luck 48 = .ok (.iload_n 3, 1) := by decide +kernel
theorem dX10_luck_49 : decode cX10_luck 49 = .ok (.aload_n 0, 1) := by decide +kernel
theorem dX10_luck_50 : decode cX10_luck 50 = .ok (.getfield 176, 3) := by decide +kernel
theorem dX10_luck_53 : decode cX10_luck 53 = .ok (.if_icmp .ge 24, 3) := by decide +kernel
theorem dX10_luck_56 : decode cX10_luck 56 = .ok (.aload_n 0, 1) := by decide +kernel
theorem dX10_luck_57 : decode cX10_luck 57 = .ok (.getfield 39, 3) := by decide +kernel
theorem dX10_luck_60 : decode cX10_luck 60 = .ok (.iload_n 3, 1) := by decide +kernel
theorem dX10_luck_61 : decode cX10_luck 61 = .ok (.iload_n 3, 1) := by decide +kernel
theorem dX10_luck_62 : decode cX10_luck 62 = .ok (.ifCond .ne 7, 3) := by decide +kernel
theorem dX10_luck_65 : decode cX10_luck 65 = .ok (.iconst 1, 1) := by decide +kernel
theorem dX10_luck_66 : decode cX10_luck 66 = .ok (.goto 4, 3) := by decide +kernel
theorem dX10_luck_69 : decode cX10_luck 69 = .ok (.iconst 0, 1) := by decide +kernel
theorem dX10_luck_70 : decode cX10_luck 70 = .ok (.iastore, 1) := by decide +kernel
theorem dX10_luck_71 : decode cX10_luck 71 = .ok (.iinc 3 1, 3) := by decide +kernel
theorem dX10_luck_74 : decode cX10_luck 74 = .ok (.goto (-26), 3) := by decide +kernel
theorem dX10_luck_77 : decode cX10_luck 77 = .ok (.iconst 1, 1) := by decide +kernel
theorem dX10_luck_78 : decode cX10_luck 78 = .ok (.istore_n 3, 1) := by decide +kernel
theorem dX10_luck_79 : decode cX10_luck 79 = .ok (.iconst 0, 1) := by decide +kernel
theorem dX10_luck_80 : decode cX10_luck 80 = .ok (.istore 4, 2) := by decide +kernel
theorem dX10_luck_82 : decode cX10_luck 82 = .ok (.iload 4, 2) := by decide +kernel
theorem dX10_luck_84 : decode cX10_luck 84 = .ok (.iload_n 1, 1) := by decide +kernel
theorem dX10_luck_85 : decode cX10_luck 85 = .ok (.if_icmp .ge 155, 3) := by decide +kernel
theorem dX10_luck_88 : decode cX10_luck 88 = .ok (.iload_n 3, 1) := by decide +kernel
theorem dX10_luck_89 : decode cX10_luck 89 = .ok (.aload_n 0, 1) := by decide +kernel
theorem dX10_luck_90 : decode cX10_luck 90 = .ok (.invokevirtual 133, 3) := by decide +kernel
theorem dX10_luck_93 : decode cX10_luck 93 = .ok (.imul, 1) := by decide +kernel
theorem dX10_luck_94 : decode cX10_luck 94 = .ok (.istore_n 3, 1) := by decide +kernel
theorem dX10_luck_95 : decode cX10_luck 95 = .ok (.iconst 0, 1) := by decide +kernel
theorem dX10_luck_96 : decode cX10_luck 96 = .ok (.istore 5, 2) := by decide +kernel
theorem dX10_luck_98 : decode cX10_luck 98 = .ok (.iload 5, 2) := by decide +kernel
theorem dX10_luck_100 : decode cX10_luck 100 = .ok (.aload_n 0, 1) := by decide +kernel
theorem dX10_luck_101 : decode cX10_luck 101 = .ok (.getfield 176, 3) := by decide +kernel
theorem dX10_luck_104 : decode cX10_luck 104 = .ok (.if_icmp .ge 17, 3) := by decide +kernel
theorem dX10_luck_107 : decode cX10_luck 107 = .ok (.aload_n 0, 1) := by decide +kernel
theorem dX10_luck_108 : decode cX10_luck 108 = .ok (.getfield 42, 3) := by decide +kernel
theorem dX10_luck_111 : decode cX10_luck 111 = .ok (.iload 5, 2) := by decide +kernel
theorem dX10_luck_113 : decode cX10_luck 113 = .ok (.iconst 0, 1) := by decide +kernel
theorem dX10_luck_114 : decode cX10_luck 114 = .ok (.iastore, 1) := by decide +kernel
theorem dX10_luck_115 : decode cX10_luck 115 = .ok (.iinc 5 1, 3) := by decide +kernel
theorem dX10_luck_118 : decode cX10_luck 118 = .ok (.goto (-20), 3) := by decide +kernel
theorem dX10_luck_121 : decode cX10_luck 121 = .ok (.iconst 0, 1) := by decide +kernel
theorem dX10_luck_122 : decode cX10_luck 122 = .ok (.istore 5, 2) := by decide +kernel
theorem dX10_luck_124 : decode cX10_luck 124 = .ok (.iload 5, 2) := by decide +kernel
theorem dX10_luck_126 : decode cX10_luck 126 = .ok (.aload_n 0, 1) := by decide +kernel
theorem dX10_luck_127 : decode cX10_luck 127 = .ok (.getfield 176, 3) := by decide +kernel
theorem dX10_luck_130 : decode cX10_luck 130 = .ok (.if_icmp .ge 72, 3) := by decide +kernel
theorem dX10_luck_133 : decode cX10_luck 133 = .ok (.iconst 0, 1) := by decide +kernel
theorem dX10_luck_134 : decode cX10_luck 134 = .ok (.istore 6, 2) := by decide +kernel
theorem dX10_luck_136 : decode cX10_luck 136 = .ok (.iload 6, 2) := by decide +kernel
theorem dX10_luck_138 : decode cX10_luck 138 = .ok (.aload_n 0, 1) := by decide +kernel
theorem dX10_luck_139 : decode cX10_luck 139 = .ok (.invokevirtual 133, 3) := by decide +kernel
theorem dX10_luck_142 : decode cX10_luck 142 = .ok (.if_icmp .ge 54, 3) := by decide +kernel
theorem dX10_luck_145 : decode cX10_luck 145 = .ok (.aload_n 0, 1) := by decide +kernel
theorem dX10_luck_146 : decode cX10_luck 146 = .ok (.getfield 39, 3) := by decide +kernel
theorem dX10_luck_149 : decode cX10_luck 149 = .ok (.iload 5, 2) := by decide +kernel
theorem dX10_luck_151 : decode cX10_luck 151 = .ok (.iaload, 1) := by decide +kernel
theorem dX10_luck_152 : decode cX10_luck 152 = .ok (.ifCond .le 44, 3) := by decide +kernel
theorem dX10_luck_155 : decode cX10_luck 155 = .ok (.aload_n 0, 1) := by decide +kernel
theorem dX10_luck_156 : decode cX10_luck 156 = .ok (.getfield 42, 3) := by decide +kernel
theorem dX10_luck_159 : decode cX10_luck 159 = .ok (.aload_n 0, 1) := by decide +kernel
theorem dX10_luck_160 : decode cX10_luck 160 = .ok (.getfield 23, 3) := by decide +kernel
theorem dX10_luck_163 : decode cX10_luck 163 = .ok (.aload_n 0, 1) := by decide +kernel
theorem dX10_luck_164 : decode cX10_luck 164 = .ok (.aload_n 0, 1) := by decide +kernel
theorem dX10_luck_165 : decode cX10_luck 165 = .ok (.getfield 26, 3) := by decide +kernel
theorem dX10_luck_168 : decode cX10_luck 168 = .ok (.iload 5, 2) := by decide +kernel
theorem dX10_luck_170 : decode cX10_luck 170 = .ok (.iaload, 1) := by decide +kernel
theorem dX10_luck_171 : decode cX10_luck 171 = .ok (.iload 6, 2) := by decide +kernel
theorem dX10_luck_173 : decode cX10_luck 173 = .ok (.invokevirtual 220, 3) := by decide +kernel
theorem dX10_luck_176 : decode cX10_luck 176 = .ok (.iaload, 1) := by decide +kernel
theorem dX10_luck_177 : decode cX10_luck 177 = .ok (.iconst 1, 1) := by decide +kernel
theorem dX10_luck_178 : decode cX10_luck 178 = .ok (.isub, 1) := by decide +kernel
theorem dX10_luck_179 : decode cX10_luck 179 = .ok (.dup2, 1) := by decide +kernel
theorem dX10_luck_180 : decode cX10_luck 180 = .ok (.iaload, 1) := by decide +kernel
theorem dX10_luck_181 : decode cX10_luck 181 = .ok (.aload_n 0, 1) := by decide +kernel
theorem dX10_luck_182 : decode cX10_luck 182 = .ok (.getfield 39, 3) := by decide +kernel
theorem dX10_luck_185 : decode cX10_luck 185 = .ok (.iload 5, 2) := by decide +kernel
theorem dX10_luck_187 : decode cX10_luck 187 = .ok (.iaload, 1) := by decide +kernel
