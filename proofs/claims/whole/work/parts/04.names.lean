theorem dX0_rowsEndingAt_93 : decode cX0_rowsEndingAt 93 = .ok (.goto 15, 3) := by decide +kernel
theorem dX0_rowsEndingAt_96 : decode cX0_rowsEndingAt 96 = .ok (.aload_n 0, 1) := by decide +kernel
theorem dX0_rowsEndingAt_97 : decode cX0_rowsEndingAt 97 = .ok (.aload_n 0, 1) := by decide +kernel
theorem dX0_rowsEndingAt_98 : decode cX0_rowsEndingAt 98 = .ok (.getfield 15, 3) := by decide +kernel
theorem dX0_rowsEndingAt_101 : decode cX0_rowsEndingAt 101 = .ok (.aload_n 0, 1) := by decide +kernel
theorem dX0_rowsEndingAt_102 : decode cX0_rowsEndingAt 102 = .ok (.getfield 9, 3) := by decide +kernel
theorem dX0_rowsEndingAt_105 : decode cX0_rowsEndingAt 105 = .ok (.invokevirtual 54, 3) := by decide +kernel
theorem dX0_rowsEndingAt_108 : decode cX0_rowsEndingAt 108 = .ok (.iinc 6 1, 3) := by decide +kernel
theorem dX0_rowsEndingAt_111 : decode cX0_rowsEndingAt 111 = .ok (.goto (-43), 3) := by decide +kernel
theorem dX0_rowsEndingAt_114 : decode cX0_rowsEndingAt 114 = .ok (.iload_n 3, 1) := by decide +kernel
theorem dX0_rowsEndingAt_115 : decode cX0_rowsEndingAt 115 = .ok (.iconst 2, 1) := by decide +kernel
theorem dX0_rowsEndingAt_116 : decode cX0_rowsEndingAt 116 = .ok (.irem, 1) := by decide +kernel
theorem dX0_rowsEndingAt_117 : decode cX0_rowsEndingAt 117 = .ok (.ifCond .ne 13, 3) := by decide +kernel
theorem dX0_rowsEndingAt_120 : decode cX0_rowsEndingAt 120 = .ok (.aload_n 0, 1) := by decide +kernel
theorem dX0_rowsEndingAt_121 : decode cX0_rowsEndingAt 121 = .ok (.getfield 9, 3) := by decide +kernel
theorem dX0_rowsEndingAt_124 : decode cX0_rowsEndingAt 124 = .ok (.iload 5, 2) := by decide +kernel
theorem dX0_rowsEndingAt_126 : decode cX0_rowsEndingAt 126 = .ok (.iaload, 1) := by decide +kernel
theorem dX0_rowsEndingAt_127 : decode cX0_rowsEndingAt 127 = .ok (.goto 10, 3) := by decide +kernel
theorem dX0_rowsEndingAt_130 : decode cX0_rowsEndingAt 130 = .ok (.aload_n 0, 1) := by decide +kernel
theorem dX0_rowsEndingAt_131 : decode cX0_rowsEndingAt 131 = .ok (.getfield 15, 3) := by decide +kernel
theorem dX0_rowsEndingAt_134 : decode cX0_rowsEndingAt 134 = .ok (.iload 5, 2) := by decide +kernel
theorem dX0_rowsEndingAt_136 : decode cX0_rowsEndingAt 136 = .ok (.iaload, 1) := by decide +kernel
theorem dX0_rowsEndingAt_137 : decode cX0_rowsEndingAt 137 = .ok (.ireturn, 1) := by decide +kernel
set_option maxRecDepth 20000 in
theorem ggX0_spread_X9_fillFirst : GoodIn wsX0_spread wsX9_fillFirst := goodIn_r _ [8] (by decide +kernel) (by decide +kernel)
set_option maxRecDepth 20000 in
theorem gX0_spread_X9_fillFirst_n46 : GoodIn wsX0_spread (wsX9_fillFirst) := ggX0_spread_X9_fillFirst
set_option maxRecDepth 20000 in
theorem ggX0_spread_X4_numberOf : GoodIn wsX0_spread wsX4_numberOf := goodIn_r _ [13, 14, 15, 16, 17, 84, 85, 86, 87, 88] (by decide +kernel) (by decide +kernel)
set_option maxRecDepth 20000 in
theorem gX0_spread_X4_numberOf : GoodIn wsX0_spread (wsV RX0 50 RX4 yX4_numberOf wsX4_numberOf) := goodIn_app (goodIn_of _ (by decide +kernel)) ggX0_spread_X4_numberOf
set_option maxRecDepth 20000 in
theorem ggX0_spread_X0_letEachGo : GoodIn wsX0_spread wsX0_letEachGo := goodIn_r _ [22, 23, 24, 25, 1, 26, 27, 28, 29, 30, 31, 32, 33, 34, 35, 36, 37, 38, 7, 39, 40, 41, 42, 43, 44, 45, 46, 47, 48, 49, 50, 51, 52, 53, 54, 55, 56, 57, 58, 59, 60, 61, 62, 63, 64, 65, 66, 67, 68, 69, 70, 71, 72, 73, 74, 9, 10, 11, 12, 13, 14, 15, 16, 17, 75, 76, 77, 78, 79, 80, 81, 82, 83, 102, 103, 104, 105, 106, 107, 108, 109, 84, 85, 86, 87, 88] (by decide +kernel) (by decide +kernel)
set_option maxRecDepth 20000 in
theorem gX0_spread_X0_letEachGo : GoodIn wsX0_spread (wsV RX0 64 RX0 yX0_letEachGo wsX0_letEachGo) := goodIn_app (goodIn_of _ (by decide +kernel)) ggX0_spread_X0_letEachGo
theorem dX0_spread_0 : decode cX0_spread 0 = .ok (.aload_n 2, 1) := by decide +kernel
theorem dX0_spread_1 : decode cX0_spread 1 = .ok (.aload_n 0, 1) := by decide +kernel
theorem dX0_spread_2 : decode cX0_spread 2 = .ok (.getfield 26, 3) := by decide +kernel
theorem dX0_spread_5 : decode cX0_spread 5 = .ok (.getfield 40, 3) := by decide +kernel
theorem dX0_spread_8 : decode cX0_spread 8 = .ok (.iconst 0, 1) := by decide +kernel
theorem dX0_spread_9 : decode cX0_spread 9 = .ok (.invokestatic 46, 3) := by decide +kernel
theorem dX0_spread_12 : decode cX0_spread 12 = .ok (.iconst 0, 1) := by decide +kernel
theorem dX0_spread_13 : decode cX0_spread 13 = .ok (.istore_n 3, 1) := by decide +kernel
theorem dX0_spread_14 : decode cX0_spread 14 = .ok (.iload_n 3, 1) := by decide +kernel
theorem dX0_spread_15 : decode cX0_spread 15 = .ok (.aload_n 0, 1) := by decide +kernel
theorem dX0_spread_16 : decode cX0_spread 16 = .ok (.getfield 30, 3) := by decide +kernel
theorem dX0_spread_19 : decode cX0_spread 19 = .ok (.getfield 58, 3) := by decide +kernel
theorem dX0_spread_22 : decode cX0_spread 22 = .ok (.if_icmp .ge 62, 3) := by decide +kernel
theorem dX0_spread_25 : decode cX0_spread 25 = .ok (.iload_n 3, 1) := by decide +kernel
theorem dX0_spread_26 : decode cX0_spread 26 = .ok (.sipush 7560, 3) := by decide +kernel
theorem dX0_spread_29 : decode cX0_spread 29 = .ok (.if_icmp .ge 55, 3) := by decide +kernel
theorem dX0_spread_32 : decode cX0_spread 32 = .ok (.aload_n 0, 1) := by decide +kernel
theorem dX0_spread_33 : decode cX0_spread 33 = .ok (.getfield 30, 3) := by decide +kernel
theorem dX0_spread_36 : decode cX0_spread 36 = .ok (.getfield 61, 3) := by decide +kernel
theorem dX0_spread_39 : decode cX0_spread 39 = .ok (.iload_n 3, 1) := by decide +kernel
theorem dX0_spread_40 : decode cX0_spread 40 = .ok (.iaload, 1) := by decide +kernel
theorem dX0_spread_41 : decode cX0_spread 41 = .ok (.istore 4, 2) := by decide +kernel
theorem dX0_spread_43 : decode cX0_spread 43 = .ok (.aload_n 0, 1) := by decide +kernel
theorem dX0_spread_44 : decode cX0_spread 44 = .ok (.getfield 26, 3) := by decide +kernel
theorem dX0_spread_47 : decode cX0_spread 47 = .ok (.iload 4, 2) := by decide +kernel
theorem dX0_spread_49 : decode cX0_spread 49 = .ok (.invokevirtual 50, 3) := by decide +kernel
theorem dX0_spread_52 : decode cX0_spread 52 = .ok (.istore 5, 2) := by decide +kernel
theorem dX0_spread_54 : decode cX0_spread 54 = .ok (.iload 5, 2) := by decide +kernel
theorem dX0_spread_56 : decode cX0_spread 56 = .ok (.iconst (-1), 1) := by decide +kernel
theorem dX0_spread_57 : decode cX0_spread 57 = .ok (.if_icmp .eq 21, 3) := by decide +kernel
theorem dX0_spread_60 : decode cX0_spread 60 = .ok (.aload_n 1, 1) := by decide +kernel
theorem dX0_spread_61 : decode cX0_spread 61 = .ok (.iload 5, 2) := by decide +kernel
theorem dX0_spread_63 : decode cX0_spread 63 = .ok (.iaload, 1) := by decide +kernel
theorem dX0_spread_64 : decode cX0_spread 64 = .ok (.ifCond .eq 14, 3) := by decide +kernel
theorem dX0_spread_67 : decode cX0_spread 67 = .ok (.aload_n 0, 1) := by decide +kernel
theorem dX0_spread_68 : decode cX0_spread 68 = .ok (.iload 4, 2) := by decide +kernel
theorem dX0_spread_70 : decode cX0_spread 70 = .ok (.aload_n 1, 1) := by decide +kernel
theorem dX0_spread_71 : decode cX0_spread 71 = .ok (.iload 5, 2) := by decide +kernel
theorem dX0_spread_73 : decode cX0_spread 73 = .ok (.iaload, 1) := by decide +kernel
theorem dX0_spread_74 : decode cX0_spread 74 = .ok (.aload_n 2, 1) := by decide +kernel
theorem dX0_spread_75 : decode cX0_spread 75 = .ok (.invokevirtual 64, 3) := by decide +kernel
theorem dX0_spread_78 : decode cX0_spread 78 = .ok (.iinc 3 1, 3) := by decide +kernel
theorem dX0_spread_81 : decode cX0_spread 81 = .ok (.goto (-67), 3) := by decide +kernel
theorem dX0_spread_84 : decode cX0_spread 84 = .ok (.return_, 1) := by decide +kernel
set_option maxRecDepth 20000 in
theorem ggX0_letEachGo_X3_find : GoodIn wsX0_letEachGo wsX3_find := goodIn_r _ [9, 10, 11, 12, 13, 14, 15, 16, 17, 18, 19, 20, 21, 22, 8, 23, 24, 25, 26, 27, 28, 29, 30, 31, 32, 33, 34, 35, 36, 37, 38, 39, 79, 80, 73, 74, 75, 76, 77, 78] (by decide +kernel) (by decide +kernel)
set_option maxRecDepth 20000 in
theorem gX0_letEachGo_X3_find : GoodIn wsX0_letEachGo (wsV RX0 68 RX3 yX3_find wsX3_find) := goodIn_app (goodIn_of _ (by decide +kernel)) ggX0_letEachGo_X3_find
set_option maxRecDepth 20000 in
theorem ggX0_letEachGo_X9_kindAt : GoodIn wsX0_letEachGo wsX9_kindAt := goodIn_r _ [19] (by decide +kernel) (by decide +kernel)
set_option maxRecDepth 20000 in
theorem gX0_letEachGo_X9_kindAt_n78 : GoodIn wsX0_letEachGo (wsX9_kindAt) := ggX0_letEachGo_X9_kindAt
set_option maxRecDepth 20000 in
theorem ggX0_letEachGo_X3_afterLeastOf : GoodIn wsX0_letEachGo wsX3_afterLeastOf := goodIn_r _ [43, 11, 12, 44, 45, 46, 8, 47, 48, 49, 50, 51, 10, 52, 18, 53, 54, 17, 19, 79, 80, 73, 74, 75, 76, 77, 78] (by decide +kernel) (by decide +kernel)
set_option maxRecDepth 20000 in
theorem gX0_letEachGo_X3_afterLeastOf : GoodIn wsX0_letEachGo (wsV RX0 82 RX3 yX3_afterLeastOf wsX3_afterLeastOf) := goodIn_app (goodIn_of _ (by decide +kernel)) ggX0_letEachGo_X3_afterLeastOf
set_option maxRecDepth 20000 in
theorem ggX0_letEachGo_X4_numberOf : GoodIn wsX0_letEachGo wsX4_numberOf := goodIn_r _ [59, 60, 61, 62, 63, 81, 82, 83, 84, 85] (by decide +kernel) (by decide +kernel)
set_option maxRecDepth 20000 in
theorem gX0_letEachGo_X4_numberOf : GoodIn wsX0_letEachGo (wsV RX0 50 RX4 yX4_numberOf wsX4_numberOf) := goodIn_app (goodIn_of _ (by decide +kernel)) ggX0_letEachGo_X4_numberOf
theorem dX0_letEachGo_0 : decode cX0_letEachGo 0 = .ok (.aload_n 0, 1) := by decide +kernel
theorem dX0_letEachGo_1 : decode cX0_letEachGo 1 = .ok (.getfield 22, 3) := by decide +kernel
theorem dX0_letEachGo_4 : decode cX0_letEachGo 4 = .ok (.iload_n 1, 1) := by decide +kernel
theorem dX0_letEachGo_5 : decode cX0_letEachGo 5 = .ok (.invokevirtual 68, 3) := by decide +kernel
theorem dX0_letEachGo_8 : decode cX0_letEachGo 8 = .ok (.iconst 0, 1) := by decide +kernel
theorem dX0_letEachGo_9 : decode cX0_letEachGo 9 = .ok (.istore 4, 2) := by decide +kernel
theorem dX0_letEachGo_11 : decode cX0_letEachGo 11 = .ok (.iload 4, 2) := by decide +kernel
theorem dX0_letEachGo_13 : decode cX0_letEachGo 13 = .ok (.aload_n 0, 1) := by decide +kernel
theorem dX0_letEachGo_14 : decode cX0_letEachGo 14 = .ok (.getfield 18, 3) := by decide +kernel
theorem dX0_letEachGo_17 : decode cX0_letEachGo 17 = .ok (.getfield 73, 3) := by decide +kernel
theorem dX0_letEachGo_20 : decode cX0_letEachGo 20 = .ok (.if_icmp .ge 51, 3) := by decide +kernel
theorem dX0_letEachGo_23 : decode cX0_letEachGo 23 = .ok (.iload_n 1, 1) := by decide +kernel
theorem dX0_letEachGo_24 : decode cX0_letEachGo 24 = .ok (.iload 4, 2) := by decide +kernel
theorem dX0_letEachGo_26 : decode cX0_letEachGo 26 = .ok (.invokestatic 78, 3) := by decide +kernel
theorem dX0_letEachGo_29 : decode cX0_letEachGo 29 = .ok (.ifCond .eq 36, 3) := by decide +kernel
theorem dX0_letEachGo_32 : decode cX0_letEachGo 32 = .ok (.aload_n 0, 1) := by decide +kernel
theorem dX0_letEachGo_33 : decode cX0_letEachGo 33 = .ok (.getfield 26, 3) := by decide +kernel
theorem dX0_letEachGo_36 : decode cX0_letEachGo 36 = .ok (.aload_n 0, 1) := by decide +kernel
theorem dX0_letEachGo_37 : decode cX0_letEachGo 37 = .ok (.getfield 22, 3) := by decide +kernel
theorem dX0_letEachGo_40 : decode cX0_letEachGo 40 = .ok (.iload_n 1, 1) := by decide +kernel
theorem dX0_letEachGo_41 : decode cX0_letEachGo 41 = .ok (.iload 4, 2) := by decide +kernel
theorem dX0_letEachGo_43 : decode cX0_letEachGo 43 = .ok (.invokevirtual 82, 3) := by decide +kernel
theorem dX0_letEachGo_46 : decode cX0_letEachGo 46 = .ok (.invokevirtual 50, 3) := by decide +kernel
theorem dX0_letEachGo_49 : decode cX0_letEachGo 49 = .ok (.istore 5, 2) := by decide +kernel
theorem dX0_letEachGo_51 : decode cX0_letEachGo 51 = .ok (.iload 5, 2) := by decide +kernel
theorem dX0_letEachGo_53 : decode cX0_letEachGo 53 = .ok (.iconst (-1), 1) := by decide +kernel
theorem dX0_letEachGo_54 : decode cX0_letEachGo 54 = .ok (.if_icmp .eq 11, 3) := by decide +kernel
theorem dX0_letEachGo_57 : decode cX0_letEachGo 57 = .ok (.aload_n 3, 1) := by decide +kernel
theorem dX0_letEachGo_58 : decode cX0_letEachGo 58 = .ok (.iload 5, 2) := by decide +kernel
theorem dX0_letEachGo_60 : decode cX0_letEachGo 60 = .ok (.dup2, 1) := by decide +kernel
theorem dX0_letEachGo_61 : decode cX0_letEachGo 61 = .ok (.iaload, 1) := by decide +kernel
theorem dX0_letEachGo_62 : decode cX0_letEachGo 62 = .ok (.iload_n 2, 1) := by decide +kernel
theorem dX0_letEachGo_63 : decode cX0_letEachGo 63 = .ok (.iadd, 1) := by decide +kernel
theorem dX0_letEachGo_64 : decode cX0_letEachGo 64 = .ok (.iastore, 1) := by decide +kernel
theorem dX0_letEachGo_65 : decode cX0_letEachGo 65 = .ok (.iinc 4 1, 3) := by decide +kernel
theorem dX0_letEachGo_68 : decode cX0_letEachGo 68 = .ok (.goto (-57), 3) := by decide +kernel
theorem dX0_letEachGo_71 : decode cX0_letEachGo 71 = .ok (.return_, 1) := by decide +kernel
set_option maxRecDepth 20000 in
theorem ggX0_play_X9_frogsOf : GoodIn wsX0_play wsX9_frogsOf := goodIn_r _ [8, 9, 10, 7, 11, 12, 13, 14] (by decide +kernel) (by decide +kernel)
set_option maxRecDepth 20000 in
theorem gX0_play_X9_frogsOf_n85 : GoodIn wsX0_play (wsX9_frogsOf) := ggX0_play_X9_frogsOf
set_option maxRecDepth 20000 in
theorem ggX0_play_X0_nextSeed : GoodIn wsX0_play wsX0_nextSeed := goodIn_r _ [18, 19, 20, 21] (by decide +kernel) (by decide +kernel)
set_option maxRecDepth 20000 in
theorem gX0_play_X0_nextSeed : GoodIn wsX0_play (va_wsS RX0 97 yX0_nextSeed wsX0_nextSeed) := goodIn_app (goodIn_of _ (by decide +kernel)) ggX0_play_X0_nextSeed
set_option maxRecDepth 20000 in
theorem ggX0_play_X0_stoneOfFrog : GoodIn wsX0_play wsX0_stoneOfFrog := goodIn_r _ [24, 13, 7, 14] (by decide +kernel) (by decide +kernel)
set_option maxRecDepth 20000 in
theorem gX0_play_X0_stoneOfFrog : GoodIn wsX0_play (va_wsS RX0 101 yX0_stoneOfFrog wsX0_stoneOfFrog) := goodIn_app (goodIn_of _ (by decide +kernel)) ggX0_play_X0_stoneOfFrog
set_option maxRecDepth 20000 in
theorem ggX0_play_X3_find : GoodIn wsX0_play wsX3_find := goodIn_r _ [29, 30, 31, 32, 33, 34, 35, 36, 13, 7, 14, 37, 38, 39, 28, 40, 41, 42, 43, 44, 45, 46, 47, 48, 49, 50, 51, 52, 53, 54, 55, 56, 81, 82, 83, 84, 85, 86, 87, 88] (by decide +kernel) (by decide +kernel)
set_option maxRecDepth 20000 in
theorem gX0_play_X3_find : GoodIn wsX0_play (wsV RX0 68 RX3 yX3_find wsX3_find) := goodIn_app (goodIn_of _ (by decide +kernel)) ggX0_play_X3_find
set_option maxRecDepth 20000 in
theorem ggX0_play_X3_targetsOf : GoodIn wsX0_play wsX3_targetsOf := goodIn_r _ [60, 30, 81, 82] (by decide +kernel) (by decide +kernel)
set_option maxRecDepth 20000 in
theorem gX0_play_X3_targetsOf : GoodIn wsX0_play (wsV RX0 104 RX3 yX3_targetsOf wsX3_targetsOf) := goodIn_app (goodIn_of _ (by decide +kernel)) ggX0_play_X3_targetsOf
set_option maxRecDepth 20000 in
theorem ggX0_play_X3_afterLeastOf : GoodIn wsX0_play wsX3_afterLeastOf := goodIn_r _ [64, 31, 32, 65, 66, 67, 28, 68, 69, 58, 59, 60, 30, 70, 7, 71, 12, 13, 14, 81, 82, 83, 84, 85, 86, 87, 88] (by decide +kernel) (by decide +kernel)
set_option maxRecDepth 20000 in
theorem gX0_play_X3_afterLeastOf : GoodIn wsX0_play (wsV RX0 82 RX3 yX3_afterLeastOf wsX3_afterLeastOf) := goodIn_app (goodIn_of _ (by decide +kernel)) ggX0_play_X3_afterLeastOf
theorem dX0_play_0 : decode cX0_play 0 = .ok (.iload_n 1, 1) := by decide +kernel
theorem dX0_play_1 : decode cX0_play 1 = .ok (.invokestatic 85, 3) := by decide +kernel
theorem dX0_play_4 : decode cX0_play 4 = .ok (.istore 4, 2) := by decide +kernel
theorem dX0_play_6 : decode cX0_play 6 = .ok (.aload_n 0, 1) := by decide +kernel
theorem dX0_play_7 : decode cX0_play 7 = .ok (.iload_n 1, 1) := by decide +kernel
theorem dX0_play_8 : decode cX0_play 8 = .ok (.putfield 88, 3) := by decide +kernel
theorem dX0_play_11 : decode cX0_play 11 = .ok (.aload_n 0, 1) := by decide +kernel
theorem dX0_play_12 : decode cX0_play 12 = .ok (.iconst 0, 1) := by decide +kernel
theorem dX0_play_13 : decode cX0_play 13 = .ok (.putfield 91, 3) := by decide +kernel
theorem dX0_play_16 : decode cX0_play 16 = .ok (.aload_n 0, 1) := by decide +kernel
theorem dX0_play_17 : decode cX0_play 17 = .ok (.iload_n 3, 1) := by decide +kernel
theorem dX0_play_18 : decode cX0_play 18 = .ok (.putfield 94, 3) := by decide +kernel
theorem dX0_play_21 : decode cX0_play 21 = .ok (.iconst 0, 1) := by decide +kernel
theorem dX0_play_22 : decode cX0_play 22 = .ok (.istore 5, 2) := by decide +kernel
theorem dX0_play_24 : decode cX0_play 24 = .ok (.iload 5, 2) := by decide +kernel
theorem dX0_play_26 : decode cX0_play 26 = .ok (.iload_n 2, 1) := by decide +kernel
theorem dX0_play_27 : decode cX0_play 27 = .ok (.if_icmp .ge 94, 3) := by decide +kernel
theorem dX0_play_30 : decode cX0_play 30 = .ok (.iload 4, 2) := by decide +kernel
theorem dX0_play_32 : decode cX0_play 32 = .ok (.ifCond .le 89, 3) := by decide +kernel
theorem dX0_play_35 : decode cX0_play 35 = .ok (.aload_n 0, 1) := by decide +kernel
theorem dX0_play_36 : decode cX0_play 36 = .ok (.aload_n 0, 1) := by decide +kernel
theorem dX0_play_37 : decode cX0_play 37 = .ok (.getfield 94, 3) := by decide +kernel
theorem dX0_play_40 : decode cX0_play 40 = .ok (.invokestatic 97, 3) := by decide +kernel
theorem dX0_play_43 : decode cX0_play 43 = .ok (.putfield 94, 3) := by decide +kernel
theorem dX0_play_46 : decode cX0_play 46 = .ok (.aload_n 0, 1) := by decide +kernel
theorem dX0_play_47 : decode cX0_play 47 = .ok (.getfield 88, 3) := by decide +kernel
theorem dX0_play_50 : decode cX0_play 50 = .ok (.aload_n 0, 1) := by decide +kernel
theorem dX0_play_51 : decode cX0_play 51 = .ok (.getfield 94, 3) := by decide +kernel
theorem dX0_play_54 : decode cX0_play 54 = .ok (.ldc 100, 2) := by decide +kernel
theorem dX0_play_56 : decode cX0_play 56 = .ok (.idiv, 1) := by decide +kernel
theorem dX0_play_57 : decode cX0_play 57 = .ok (.iload 4, 2) := by decide +kernel
theorem dX0_play_59 : decode cX0_play 59 = .ok (.irem, 1) := by decide +kernel
theorem dX0_play_60 : decode cX0_play 60 = .ok (.invokestatic 101, 3) := by decide +kernel
theorem dX0_play_63 : decode cX0_play 63 = .ok (.istore 6, 2) := by decide +kernel
theorem dX0_play_65 : decode cX0_play 65 = .ok (.aload_n 0, 1) := by decide +kernel
theorem dX0_play_66 : decode cX0_play 66 = .ok (.getfield 22, 3) := by decide +kernel
theorem dX0_play_69 : decode cX0_play 69 = .ok (.aload_n 0, 1) := by decide +kernel
theorem dX0_play_70 : decode cX0_play 70 = .ok (.getfield 88, 3) := by decide +kernel
theorem dX0_play_73 : decode cX0_play 73 = .ok (.invokevirtual 68, 3) := by decide +kernel
theorem dX0_play_76 : decode cX0_play 76 = .ok (.aload_n 0, 1) := by decide +kernel
theorem dX0_play_77 : decode cX0_play 77 = .ok (.getfield 22, 3) := by decide +kernel
theorem dX0_play_80 : decode cX0_play 80 = .ok (.iload 6, 2) := by decide +kernel
theorem dX0_play_82 : decode cX0_play 82 = .ok (.invokevirtual 104, 3) := by decide +kernel
theorem dX0_play_85 : decode cX0_play 85 = .ok (.ifCond .eq 30, 3) := by decide +kernel
theorem dX0_play_88 : decode cX0_play 88 = .ok (.aload_n 0, 1) := by decide +kernel
theorem dX0_play_89 : decode cX0_play 89 = .ok (.aload_n 0, 1) := by decide +kernel
theorem dX0_play_90 : decode cX0_play 90 = .ok (.getfield 22, 3) := by decide +kernel
theorem dX0_play_93 : decode cX0_play 93 = .ok (.aload_n 0, 1) := by decide +kernel
theorem dX0_play_94 : decode cX0_play 94 = .ok (.getfield 88, 3) := by decide +kernel
theorem dX0_play_97 : decode cX0_play 97 = .ok (.iload 6, 2) := by decide +kernel
theorem dX0_play_99 : decode cX0_play 99 = .ok (.invokevirtual 82, 3) := by decide +kernel
theorem dX0_play_102 : decode cX0_play 102 = .ok (.putfield 88, 3) := by decide +kernel
theorem dX0_play_105 : decode cX0_play 105 = .ok (.aload_n 0, 1) := by decide +kernel
theorem dX0_play_106 : decode cX0_play 106 = .ok (.dup, 1) := by decide +kernel
theorem dX0_play_107 : decode cX0_play 107 = .ok (.getfield 91, 3) := by decide +kernel
theorem dX0_play_110 : decode cX0_play 110 = .ok (.iconst 1, 1) := by decide +kernel
theorem dX0_play_111 : decode cX0_play 111 = .ok (.iadd, 1) := by decide +kernel
theorem dX0_play_112 : decode cX0_play 112 = .ok (.putfield 91, 3) := by decide +kernel
theorem dX0_play_115 : decode cX0_play 115 = .ok (.iinc 5 1, 3) := by decide +kernel
theorem dX0_play_118 : decode cX0_play 118 = .ok (.goto (-94), 3) := by decide +kernel
theorem dX0_play_121 : decode cX0_play 121 = .ok (.return_, 1) := by decide +kernel
theorem dX0_nextSeed_0 : decode cX0_nextSeed 0 = .ok (.ldc2_w 107, 3) := by decide +kernel
theorem dX0_nextSeed_3 : decode cX0_nextSeed 3 = .ok (.iload_n 0, 1) := by decide +kernel
theorem dX0_nextSeed_4 : decode cX0_nextSeed 4 = .ok (.i2l, 1) := by decide +kernel
theorem dX0_nextSeed_5 : decode cX0_nextSeed 5 = .ok (.lmul, 1) := by decide +kernel
theorem dX0_nextSeed_6 : decode cX0_nextSeed 6 = .ok (.ldc2_w 109, 3) := by decide +kernel
theorem dX0_nextSeed_9 : decode cX0_nextSeed 9 = .ok (.ladd, 1) := by decide +kernel
theorem dX0_nextSeed_10 : decode cX0_nextSeed 10 = .ok (.ldc2_w 111, 3) := by decide +kernel
theorem dX0_nextSeed_13 : decode cX0_nextSeed 13 = .ok (.land, 1) := by decide +kernel
theorem dX0_nextSeed_14 : decode cX0_nextSeed 14 = .ok (.l2i, 1) := by decide +kernel
theorem dX0_nextSeed_15 : decode cX0_nextSeed 15 = .ok (.ireturn, 1) := by decide +kernel
set_option maxRecDepth 20000 in
theorem ggX0_stoneOfFrog_X9_kindAt : GoodIn wsX0_stoneOfFrog wsX9_kindAt := goodIn_r _ [3] (by decide +kernel) (by decide +kernel)
set_option maxRecDepth 20000 in
theorem gX0_stoneOfFrog_X9_kindAt_n78 : GoodIn wsX0_stoneOfFrog (wsX9_kindAt) := ggX0_stoneOfFrog_X9_kindAt
theorem dX0_stoneOfFrog_0 : decode cX0_stoneOfFrog 0 = .ok (.iconst 0, 1) := by decide +kernel
theorem dX0_stoneOfFrog_1 : decode cX0_stoneOfFrog 1 = .ok (.istore_n 2, 1) := by decide +kernel
theorem dX0_stoneOfFrog_2 : decode cX0_stoneOfFrog 2 = .ok (.iconst 0, 1) := by decide +kernel
theorem dX0_stoneOfFrog_3 : decode cX0_stoneOfFrog 3 = .ok (.istore_n 3, 1) := by decide +kernel
theorem dX0_stoneOfFrog_4 : decode cX0_stoneOfFrog 4 = .ok (.iload_n 3, 1) := by decide +kernel
theorem dX0_stoneOfFrog_5 : decode cX0_stoneOfFrog 5 = .ok (.bipush 9, 2) := by decide +kernel
theorem dX0_stoneOfFrog_7 : decode cX0_stoneOfFrog 7 = .ok (.if_icmp .ge 27, 3) := by decide +kernel
theorem dX0_stoneOfFrog_10 : decode cX0_stoneOfFrog 10 = .ok (.iload_n 0, 1) := by decide +kernel
theorem dX0_stoneOfFrog_11 : decode cX0_stoneOfFrog 11 = .ok (.iload_n 3, 1) := by decide +kernel
theorem dX0_stoneOfFrog_12 : decode cX0_stoneOfFrog 12 = .ok (.invokestatic 78, 3) := by decide +kernel
theorem dX0_stoneOfFrog_15 : decode cX0_stoneOfFrog 15 = .ok (.ifCond .eq 13, 3) := by decide +kernel
theorem dX0_stoneOfFrog_18 : decode cX0_stoneOfFrog 18 = .ok (.iload_n 2, 1) := by decide +kernel
theorem dX0_stoneOfFrog_19 : decode cX0_stoneOfFrog 19 = .ok (.iload_n 1, 1) := by decide +kernel
theorem dX0_stoneOfFrog_20 : decode cX0_stoneOfFrog 20 = .ok (.if_icmp .ne 5, 3) := by decide +kernel
theorem dX0_stoneOfFrog_23 : decode cX0_stoneOfFrog 23 = .ok (.iload_n 3, 1) := by decide +kernel
theorem dX0_stoneOfFrog_24 : decode cX0_stoneOfFrog 24 = .ok (.ireturn, 1) := by decide +kernel
theorem dX0_stoneOfFrog_25 : decode cX0_stoneOfFrog 25 = .ok (.iinc 2 1, 3) := by decide +kernel
theorem dX0_stoneOfFrog_28 : decode cX0_stoneOfFrog 28 = .ok (.iinc 3 1, 3) := by decide +kernel
theorem dX0_stoneOfFrog_31 : decode cX0_stoneOfFrog 31 = .ok (.goto (-27), 3) := by decide +kernel
theorem dX0_stoneOfFrog_34 : decode cX0_stoneOfFrog 34 = .ok (.iconst (-1), 1) := by decide +kernel
theorem dX0_stoneOfFrog_35 : decode cX0_stoneOfFrog 35 = .ok (.ireturn, 1) := by decide +kernel
theorem dX1_init_0 : decode cX1_init 0 = .ok (.aload_n 0, 1) := by decide +kernel
theorem dX1_init_1 : decode cX1_init 1 = .ok (.invokespecial 3, 3) := by decide +kernel
theorem dX1_init_4 : decode cX1_init 4 = .ok (.aload_n 0, 1) := by decide +kernel
theorem dX1_init_5 : decode cX1_init 5 = .ok (.bipush 60, 2) := by decide +kernel
theorem dX1_init_7 : decode cX1_init 7 = .ok (.newarray .int, 2) := by decide +kernel
theorem dX1_init_9 : decode cX1_init 9 = .ok (.putfield 9, 3) := by decide +kernel
theorem dX1_init_12 : decode cX1_init 12 = .ok (.aload_n 0, 1) := by decide +kernel
theorem dX1_init_13 : decode cX1_init 13 = .ok (.bipush 60, 2) := by decide +kernel
theorem dX1_init_15 : decode cX1_init 15 = .ok (.newarray .int, 2) := by decide +kernel
theorem dX1_init_17 : decode cX1_init 17 = .ok (.putfield 15, 3) := by decide +kernel
theorem dX1_init_20 : decode cX1_init 20 = .ok (.return_, 1) := by decide +kernel
theorem dX1_begin_0 : decode cX1_begin 0 = .ok (.aload_n 0, 1) := by decide +kernel
theorem dX1_begin_1 : decode cX1_begin 1 = .ok (.iconst 0, 1) := by decide +kernel
theorem dX1_begin_2 : decode cX1_begin 2 = .ok (.putfield 18, 3) := by decide +kernel
theorem dX1_begin_5 : decode cX1_begin 5 = .ok (.aload_n 0, 1) := by decide +kernel
theorem dX1_begin_6 : decode cX1_begin 6 = .ok (.iload_n 1, 1) := by decide +kernel
theorem dX1_begin_7 : decode cX1_begin 7 = .ok (.putfield 22, 3) := by decide +kernel
theorem dX1_begin_10 : decode cX1_begin 10 = .ok (.return_, 1) := by decide +kernel
set_option maxRecDepth 20000 in
theorem ggX1_make_X9_afterMove : GoodIn wsX1_make wsX9_afterMove := goodIn_r _ [7, 8, 9, 6, 10] (by decide +kernel) (by decide +kernel)
set_option maxRecDepth 20000 in
theorem gX1_make_X9_afterMove_n25 : GoodIn wsX1_make (wsX9_afterMove) := ggX1_make_X9_afterMove
theorem dX1_make_0 : decode cX1_make 0 = .ok (.aload_n 0, 1) := by decide +kernel
theorem dX1_make_1 : decode cX1_make 1 = .ok (.getfield 18, 3) := by decide +kernel
theorem dX1_make_4 : decode cX1_make 4 = .ok (.bipush 60, 2) := by decide +kernel
theorem dX1_make_6 : decode cX1_make 6 = .ok (.if_icmp .ge 46, 3) := by decide +kernel
theorem dX1_make_9 : decode cX1_make 9 = .ok (.aload_n 0, 1) := by decide +kernel
theorem dX1_make_10 : decode cX1_make 10 = .ok (.getfield 9, 3) := by decide +kernel
theorem dX1_make_13 : decode cX1_make 13 = .ok (.aload_n 0, 1) := by decide +kernel
theorem dX1_make_14 : decode cX1_make 14 = .ok (.getfield 18, 3) := by decide +kernel
theorem dX1_make_17 : decode cX1_make 17 = .ok (.iload_n 1, 1) := by decide +kernel
theorem dX1_make_18 : decode cX1_make 18 = .ok (.iastore, 1) := by decide +kernel
theorem dX1_make_19 : decode cX1_make 19 = .ok (.aload_n 0, 1) := by decide +kernel
theorem dX1_make_20 : decode cX1_make 20 = .ok (.getfield 15, 3) := by decide +kernel
theorem dX1_make_23 : decode cX1_make 23 = .ok (.aload_n 0, 1) := by decide +kernel
theorem dX1_make_24 : decode cX1_make 24 = .ok (.getfield 18, 3) := by decide +kernel
theorem dX1_make_27 : decode cX1_make 27 = .ok (.iload_n 2, 1) := by decide +kernel
theorem dX1_make_28 : decode cX1_make 28 = .ok (.iastore, 1) := by decide +kernel
theorem dX1_make_29 : decode cX1_make 29 = .ok (.aload_n 0, 1) := by decide +kernel
theorem dX1_make_30 : decode cX1_make 30 = .ok (.dup, 1) := by decide +kernel
theorem dX1_make_31 : decode cX1_make 31 = .ok (.getfield 18, 3) := by decide +kernel
theorem dX1_make_34 : decode cX1_make 34 = .ok (.iconst 1, 1) := by decide +kernel
theorem dX1_make_35 : decode cX1_make 35 = .ok (.iadd, 1) := by decide +kernel
theorem dX1_make_36 : decode cX1_make 36 = .ok (.putfield 18, 3) := by decide +kernel
theorem dX1_make_39 : decode cX1_make 39 = .ok (.aload_n 0, 1) := by decide +kernel
theorem dX1_make_40 : decode cX1_make 40 = .ok (.aload_n 0, 1) := by decide +kernel
theorem dX1_make_41 : decode cX1_make 41 = .ok (.getfield 22, 3) := by decide +kernel
theorem dX1_make_44 : decode cX1_make 44 = .ok (.iload_n 1, 1) := by decide +kernel
theorem dX1_make_45 : decode cX1_make 45 = .ok (.iload_n 2, 1) := by decide +kernel
theorem dX1_make_46 : decode cX1_make 46 = .ok (.invokestatic 25, 3) := by decide +kernel
theorem dX1_make_49 : decode cX1_make 49 = .ok (.putfield 22, 3) := by decide +kernel
theorem dX1_make_52 : decode cX1_make 52 = .ok (.return_, 1) := by decide +kernel
set_option maxRecDepth 20000 in
theorem ggX1_unmake_X9_afterMove : GoodIn wsX1_unmake wsX9_afterMove := goodIn_r _ [7, 8, 9, 6, 10] (by decide +kernel) (by decide +kernel)
set_option maxRecDepth 20000 in
theorem gX1_unmake_X9_afterMove_n25 : GoodIn wsX1_unmake (wsX9_afterMove) := ggX1_unmake_X9_afterMove
theorem dX1_unmake_0 : decode cX1_unmake 0 = .ok (.aload_n 0, 1) := by decide +kernel
theorem dX1_unmake_1 : decode cX1_unmake 1 = .ok (.getfield 18, 3) := by decide +kernel
theorem dX1_unmake_4 : decode cX1_unmake 4 = .ok (.ifCond .le 42, 3) := by decide +kernel
theorem dX1_unmake_7 : decode cX1_unmake 7 = .ok (.aload_n 0, 1) := by decide +kernel
theorem dX1_unmake_8 : decode cX1_unmake 8 = .ok (.dup, 1) := by decide +kernel
theorem dX1_unmake_9 : decode cX1_unmake 9 = .ok (.getfield 18, 3) := by decide +kernel
theorem dX1_unmake_12 : decode cX1_unmake 12 = .ok (.iconst 1, 1) := by decide +kernel
theorem dX1_unmake_13 : decode cX1_unmake 13 = .ok (.isub, 1) := by decide +kernel
theorem dX1_unmake_14 : decode cX1_unmake 14 = .ok (.putfield 18, 3) := by decide +kernel
theorem dX1_unmake_17 : decode cX1_unmake 17 = .ok (.aload_n 0, 1) := by decide +kernel
theorem dX1_unmake_18 : decode cX1_unmake 18 = .ok (.aload_n 0, 1) := by decide +kernel
theorem dX1_unmake_19 : decode cX1_unmake 19 = .ok (.getfield 22, 3) := by decide +kernel
theorem dX1_unmake_22 : decode cX1_unmake 22 = .ok (.aload_n 0, 1) := by decide +kernel
theorem dX1_unmake_23 : decode cX1_unmake 23 = .ok (.getfield 15, 3) := by decide +kernel
theorem dX1_unmake_26 : decode cX1_unmake 26 = .ok (.aload_n 0, 1) := by decide +kernel
theorem dX1_unmake_27 : decode cX1_unmake 27 = .ok (.getfield 18, 3) := by decide +kernel
theorem dX1_unmake_30 : decode cX1_unmake 30 = .ok (.iaload, 1) := by decide +kernel
theorem dX1_unmake_31 : decode cX1_unmake 31 = .ok (.aload_n 0, 1) := by decide +kernel
theorem dX1_unmake_32 : decode cX1_unmake 32 = .ok (.getfield 9, 3) := by decide +kernel
theorem dX1_unmake_35 : decode cX1_unmake 35 = .ok (.aload_n 0, 1) := by decide +kernel
theorem dX1_unmake_36 : decode cX1_unmake 36 = .ok (.getfield 18, 3) := by decide +kernel
theorem dX1_unmake_39 : decode cX1_unmake 39 = .ok (.iaload, 1) := by decide +kernel
theorem dX1_unmake_40 : decode cX1_unmake 40 = .ok (.invokestatic 25, 3) := by decide +kernel
theorem dX1_unmake_43 : decode cX1_unmake 43 = .ok (.putfield 22, 3) := by decide +kernel
theorem dX1_unmake_46 : decode cX1_unmake 46 = .ok (.return_, 1) := by decide +kernel
theorem dX1_copy_0 : decode cX1_copy 0 = .ok (.aload_n 1, 1) := by decide +kernel
theorem dX1_copy_1 : decode cX1_copy 1 = .ok (.getfield 9, 3) := by decide +kernel
theorem dX1_copy_4 : decode cX1_copy 4 = .ok (.iconst 0, 1) := by decide +kernel
theorem dX1_copy_5 : decode cX1_copy 5 = .ok (.aload_n 0, 1) := by decide +kernel
theorem dX1_copy_6 : decode cX1_copy 6 = .ok (.getfield 9, 3) := by decide +kernel
theorem dX1_copy_9 : decode cX1_copy 9 = .ok (.iconst 0, 1) := by decide +kernel
theorem dX1_copy_10 : decode cX1_copy 10 = .ok (.bipush 60, 2) := by decide +kernel
theorem dX1_copy_12 : decode cX1_copy 12 = .ok (.invokestatic 29, 3) := by decide +kernel
theorem dX1_copy_15 : decode cX1_copy 15 = .ok (.aload_n 1, 1) := by decide +kernel
theorem dX1_copy_16 : decode cX1_copy 16 = .ok (.getfield 15, 3) := by decide +kernel
theorem dX1_copy_19 : decode cX1_copy 19 = .ok (.iconst 0, 1) := by decide +kernel
theorem dX1_copy_20 : decode cX1_copy 20 = .ok (.aload_n 0, 1) := by decide +kernel
theorem dX1_copy_21 : decode cX1_copy 21 = .ok (.getfield 15, 3) := by decide +kernel
theorem dX1_copy_24 : decode cX1_copy 24 = .ok (.iconst 0, 1) := by decide +kernel
theorem dX1_copy_25 : decode cX1_copy 25 = .ok (.bipush 60, 2) := by decide +kernel
theorem dX1_copy_27 : decode cX1_copy 27 = .ok (.invokestatic 29, 3) := by decide +kernel
theorem dX1_copy_30 : decode cX1_copy 30 = .ok (.aload_n 0, 1) := by decide +kernel
theorem dX1_copy_31 : decode cX1_copy 31 = .ok (.aload_n 1, 1) := by decide +kernel
theorem dX1_copy_32 : decode cX1_copy 32 = .ok (.getfield 18, 3) := by decide +kernel
theorem dX1_copy_35 : decode cX1_copy 35 = .ok (.putfield 18, 3) := by decide +kernel
theorem dX1_copy_38 : decode cX1_copy 38 = .ok (.aload_n 0, 1) := by decide +kernel
theorem dX1_copy_39 : decode cX1_copy 39 = .ok (.aload_n 1, 1) := by decide +kernel
theorem dX1_copy_40 : decode cX1_copy 40 = .ok (.getfield 22, 3) := by decide +kernel
theorem dX1_copy_43 : decode cX1_copy 43 = .ok (.putfield 22, 3) := by decide +kernel
theorem dX1_copy_46 : decode cX1_copy 46 = .ok (.return_, 1) := by decide +kernel
theorem dX2_init_0 : decode cX2_init 0 = .ok (.aload_n 0, 1) := by decide +kernel
theorem dX2_init_1 : decode cX2_init 1 = .ok (.invokespecial 5, 3) := by decide +kernel
theorem dX2_init_4 : decode cX2_init 4 = .ok (.aload_n 0, 1) := by decide +kernel
theorem dX2_init_5 : decode cX2_init 5 = .ok (.sipush 145, 3) := by decide +kernel
theorem dX2_init_8 : decode cX2_init 8 = .ok (.newarray .int, 2) := by decide +kernel
theorem dX2_init_10 : decode cX2_init 10 = .ok (.putfield 11, 3) := by decide +kernel
theorem dX2_init_13 : decode cX2_init 13 = .ok (.aload_n 0, 1) := by decide +kernel
theorem dX2_init_14 : decode cX2_init 14 = .ok (.sipush 1680, 3) := by decide +kernel
theorem dX2_init_17 : decode cX2_init 17 = .ok (.newarray .int, 2) := by decide +kernel
theorem dX2_init_19 : decode cX2_init 19 = .ok (.putfield 15, 3) := by decide +kernel
theorem dX2_init_22 : decode cX2_init 22 = .ok (.aload_n 0, 1) := by decide +kernel
theorem dX2_init_23 : decode cX2_init 23 = .ok (.sipush 1680, 3) := by decide +kernel
theorem dX2_init_26 : decode cX2_init 26 = .ok (.newarray .int, 2) := by decide +kernel
theorem dX2_init_28 : decode cX2_init 28 = .ok (.putfield 18, 3) := by decide +kernel
theorem dX2_init_31 : decode cX2_init 31 = .ok (.aload_n 0, 1) := by decide +kernel
theorem dX2_init_32 : decode cX2_init 32 = .ok (.sipush 1680, 3) := by decide +kernel
theorem dX2_init_35 : decode cX2_init 35 = .ok (.newarray .int, 2) := by decide +kernel
theorem dX2_init_37 : decode cX2_init 37 = .ok (.putfield 21, 3) := by decide +kernel
theorem dX2_init_40 : decode cX2_init 40 = .ok (.aload_n 0, 1) := by decide +kernel
theorem dX2_init_41 : decode cX2_init 41 = .ok (.aload_n 1, 1) := by decide +kernel
theorem dX2_init_42 : decode cX2_init 42 = .ok (.putfield 24, 3) := by decide +kernel
theorem dX2_init_45 : decode cX2_init 45 = .ok (.aload_n 0, 1) := by decide +kernel
theorem dX2_init_46 : decode cX2_init 46 = .ok (.aload_n 2, 1) := by decide +kernel
theorem dX2_init_47 : decode cX2_init 47 = .ok (.putfield 28, 3) := by decide +kernel
theorem dX2_init_50 : decode cX2_init 50 = .ok (.aload_n 0, 1) := by decide +kernel
theorem dX2_init_51 : decode cX2_init 51 = .ok (.aload_n 3, 1) := by decide +kernel
theorem dX2_init_52 : decode cX2_init 52 = .ok (.putfield 32, 3) := by decide +kernel
theorem dX2_init_55 : decode cX2_init 55 = .ok (.aload_n 0, 1) := by decide +kernel
theorem dX2_init_56 : decode cX2_init 56 = .ok (.aload 4, 2) := by decide +kernel
theorem dX2_init_58 : decode cX2_init 58 = .ok (.putfield 36, 3) := by decide +kernel
theorem dX2_init_61 : decode cX2_init 61 = .ok (.return_, 1) := by decide +kernel
set_option maxRecDepth 20000 in
theorem ggX2_settleFrom_X8_lookFrom : GoodIn wsX2_settleFrom wsX8_lookFrom := goodIn_r _ [14, 15, 16, 17, 18, 19, 20, 21, 22, 23, 24, 25, 26, 27, 28, 29, 30, 31, 32, 33, 34, 35, 36, 37, 38, 39, 40, 13, 41, 42, 43, 44, 45, 46, 47, 48, 49, 50, 51, 52, 53, 54, 55, 56, 57, 58, 59, 60, 61, 62, 63, 64, 65, 66, 67, 68, 69, 70, 71, 72, 73, 74, 75, 76, 77, 78, 79, 80, 81, 82, 83, 84, 85, 86, 87, 88, 89, 90, 91, 92, 93, 94, 95, 96, 97, 98, 99, 100, 101, 102, 103, 104, 6, 7, 8, 161, 162, 163, 164, 165, 166, 167, 168, 169, 170, 171, 172, 173, 174, 175, 176, 177, 178, 179, 180, 181, 182, 183, 184, 185, 186] (by decide +kernel) (by decide +kernel)
set_option maxRecDepth 20000 in
theorem gX2_settleFrom_X8_lookFrom : GoodIn wsX2_settleFrom (wsV RX2 40 RX8 yX8_lookFrom wsX8_lookFrom) := goodIn_app (goodIn_of _ (by decide +kernel)) ggX2_settleFrom_X8_lookFrom
set_option maxRecDepth 20000 in
theorem ggX2_settleFrom_X2_sortByLevel : GoodIn wsX2_settleFrom wsX2_sortByLevel := goodIn_r _ [109, 1, 4, 5, 6, 7, 8, 110, 111, 9, 112, 59, 60, 61, 113, 114, 115, 108, 116, 117, 118, 119, 120, 121, 62, 27, 63, 122, 123, 124, 73, 125, 126, 152, 153, 154, 155, 156, 157, 158, 159, 160, 161, 162, 163, 164, 165, 166, 167, 168, 169, 170, 171, 172, 173, 179, 180, 181, 182, 183, 184] (by decide +kernel) (by decide +kernel)
set_option maxRecDepth 20000 in
theorem gX2_settleFrom_X2_sortByLevel : GoodIn wsX2_settleFrom (wsV RX2 53 RX2 yX2_sortByLevel wsX2_sortByLevel) := goodIn_app (goodIn_of _ (by decide +kernel)) ggX2_settleFrom_X2_sortByLevel
set_option maxRecDepth 20000 in
theorem ggX2_settleFrom_X2_settle : GoodIn wsX2_settleFrom wsX2_settle := goodIn_r _ [130, 131, 117, 118, 119, 120, 7, 121, 132, 133, 134, 135, 51, 52, 53, 54, 55, 56, 57, 58, 59, 60, 61, 62, 27, 63, 64, 65, 66, 67, 68, 69, 70, 71, 72, 73, 74, 75, 76, 77, 78, 79, 80, 81, 82, 83, 136, 93, 94, 95, 96, 85, 86, 87, 97, 98, 99, 137, 138, 139, 108, 140, 141, 30, 31, 32, 33, 34, 35, 36, 37, 142, 143, 144, 145, 146, 147, 148, 149, 150, 151, 152, 153, 154, 155, 156, 157, 158, 159, 160, 179, 180, 181, 182, 183, 184, 185, 186, 174, 175, 176, 177, 178] (by decide +kernel) (by decide +kernel)
set_option maxRecDepth 20000 in
theorem gX2_settleFrom_X2_settle : GoodIn wsX2_settleFrom (wsV RX2 65 RX2 yX2_settle wsX2_settle) := goodIn_app (goodIn_of _ (by decide +kernel)) ggX2_settleFrom_X2_settle
theorem dX2_settleFrom_0 : decode cX2_settleFrom 0 = .ok (.aload_n 0, 1) := by decide +kernel
theorem dX2_settleFrom_1 : decode cX2_settleFrom 1 = .ok (.getfield 36, 3) := by decide +kernel
theorem dX2_settleFrom_4 : decode cX2_settleFrom 4 = .ok (.iload_n 1, 1) := by decide +kernel
theorem dX2_settleFrom_5 : decode cX2_settleFrom 5 = .ok (.invokevirtual 40, 3) := by decide +kernel
theorem dX2_settleFrom_8 : decode cX2_settleFrom 8 = .ok (.aload_n 0, 1) := by decide +kernel
theorem dX2_settleFrom_9 : decode cX2_settleFrom 9 = .ok (.getfield 46, 3) := by decide +kernel
theorem dX2_settleFrom_12 : decode cX2_settleFrom 12 = .ok (.aload_n 0, 1) := by decide +kernel
theorem dX2_settleFrom_13 : decode cX2_settleFrom 13 = .ok (.getfield 36, 3) := by decide +kernel
theorem dX2_settleFrom_16 : decode cX2_settleFrom 16 = .ok (.getfield 50, 3) := by decide +kernel
theorem dX2_settleFrom_19 : decode cX2_settleFrom 19 = .ok (.if_icmp .ne 4, 3) := by decide +kernel
theorem dX2_settleFrom_22 : decode cX2_settleFrom 22 = .ok (.return_, 1) := by decide +kernel
theorem dX2_settleFrom_23 : decode cX2_settleFrom 23 = .ok (.aload_n 0, 1) := by decide +kernel
theorem dX2_settleFrom_24 : decode cX2_settleFrom 24 = .ok (.invokevirtual 53, 3) := by decide +kernel
theorem dX2_settleFrom_27 : decode cX2_settleFrom 27 = .ok (.aload_n 0, 1) := by decide +kernel
theorem dX2_settleFrom_28 : decode cX2_settleFrom 28 = .ok (.getfield 36, 3) := by decide +kernel
theorem dX2_settleFrom_31 : decode cX2_settleFrom 31 = .ok (.getfield 56, 3) := by decide +kernel
theorem dX2_settleFrom_34 : decode cX2_settleFrom 34 = .ok (.sipush 1680, 3) := by decide +kernel
theorem dX2_settleFrom_37 : decode cX2_settleFrom 37 = .ok (.invokestatic 59, 3) := by decide +kernel
theorem dX2_settleFrom_40 : decode cX2_settleFrom 40 = .ok (.iconst 1, 1) := by decide +kernel
theorem dX2_settleFrom_41 : decode cX2_settleFrom 41 = .ok (.isub, 1) := by decide +kernel
theorem dX2_settleFrom_42 : decode cX2_settleFrom 42 = .ok (.istore_n 2, 1) := by decide +kernel
theorem dX2_settleFrom_43 : decode cX2_settleFrom 43 = .ok (.iload_n 2, 1) := by decide +kernel
theorem dX2_settleFrom_44 : decode cX2_settleFrom 44 = .ok (.ifCond .lt 19, 3) := by decide +kernel
theorem dX2_settleFrom_47 : decode cX2_settleFrom 47 = .ok (.aload_n 0, 1) := by decide +kernel
theorem dX2_settleFrom_48 : decode cX2_settleFrom 48 = .ok (.aload_n 0, 1) := by decide +kernel
theorem dX2_settleFrom_49 : decode cX2_settleFrom 49 = .ok (.getfield 15, 3) := by decide +kernel
theorem dX2_settleFrom_52 : decode cX2_settleFrom 52 = .ok (.iload_n 2, 1) := by decide +kernel
theorem dX2_settleFrom_53 : decode cX2_settleFrom 53 = .ok (.iaload, 1) := by decide +kernel
theorem dX2_settleFrom_54 : decode cX2_settleFrom 54 = .ok (.invokevirtual 65, 3) := by decide +kernel
theorem dX2_settleFrom_57 : decode cX2_settleFrom 57 = .ok (.iinc 2 (-1), 3) := by decide +kernel
theorem dX2_settleFrom_60 : decode cX2_settleFrom 60 = .ok (.goto (-17), 3) := by decide +kernel
theorem dX2_settleFrom_63 : decode cX2_settleFrom 63 = .ok (.aload_n 0, 1) := by decide +kernel
theorem dX2_settleFrom_64 : decode cX2_settleFrom 64 = .ok (.aload_n 0, 1) := by decide +kernel
theorem dX2_settleFrom_65 : decode cX2_settleFrom 65 = .ok (.getfield 36, 3) := by decide +kernel
theorem dX2_settleFrom_68 : decode cX2_settleFrom 68 = .ok (.getfield 50, 3) := by decide +kernel
theorem dX2_settleFrom_71 : decode cX2_settleFrom 71 = .ok (.putfield 46, 3) := by decide +kernel
theorem dX2_settleFrom_74 : decode cX2_settleFrom 74 = .ok (.return_, 1) := by decide +kernel
set_option maxRecDepth 20000 in
theorem ggX2_sortByLevel_J7_fill_53178 : GoodIn wsX2_sortByLevel wsJ7_fill_53178 := goodIn_r _ [13] (by decide +kernel) (by decide +kernel)
set_option maxRecDepth 20000 in
theorem gX2_sortByLevel_J7_fill_53178 : GoodIn wsX2_sortByLevel (va_wsS RX2 68 yJ7_fill_53178 wsJ7_fill_53178) := goodIn_app (goodIn_of _ (by decide +kernel)) ggX2_sortByLevel_J7_fill_53178
set_option maxRecDepth 20000 in
theorem ggX2_sortByLevel_X2_levelOf : GoodIn wsX2_sortByLevel wsX2_levelOf := goodIn_r _ [18, 19, 20, 3, 4, 5, 6, 21, 22, 23, 24, 25, 26, 27, 28, 29, 30, 31, 32, 33, 34, 35, 36, 37, 38, 39, 40, 41, 55, 56, 57, 58, 59, 60] (by decide +kernel) (by decide +kernel)
set_option maxRecDepth 20000 in
theorem gX2_sortByLevel_X2_levelOf : GoodIn wsX2_sortByLevel (wsV RX2 77 RX2 yX2_levelOf wsX2_levelOf) := goodIn_app (goodIn_of _ (by decide +kernel)) ggX2_sortByLevel_X2_levelOf
theorem dX2_sortByLevel_0 : decode cX2_sortByLevel 0 = .ok (.aload_n 0, 1) := by decide +kernel
theorem dX2_sortByLevel_1 : decode cX2_sortByLevel 1 = .ok (.getfield 36, 3) := by decide +kernel
theorem dX2_sortByLevel_4 : decode cX2_sortByLevel 4 = .ok (.getfield 56, 3) := by decide +kernel
theorem dX2_sortByLevel_7 : decode cX2_sortByLevel 7 = .ok (.sipush 1680, 3) := by decide +kernel
theorem dX2_sortByLevel_10 : decode cX2_sortByLevel 10 = .ok (.invokestatic 59, 3) := by decide +kernel
theorem dX2_sortByLevel_13 : decode cX2_sortByLevel 13 = .ok (.istore_n 1, 1) := by decide +kernel
theorem dX2_sortByLevel_14 : decode cX2_sortByLevel 14 = .ok (.aload_n 0, 1) := by decide +kernel
theorem dX2_sortByLevel_15 : decode cX2_sortByLevel 15 = .ok (.getfield 11, 3) := by decide +kernel
theorem dX2_sortByLevel_18 : decode cX2_sortByLevel 18 = .ok (.iconst 0, 1) := by decide +kernel
theorem dX2_sortByLevel_19 : decode cX2_sortByLevel 19 = .ok (.invokestatic 68, 3) := by decide +kernel
theorem dX2_sortByLevel_22 : decode cX2_sortByLevel 22 = .ok (.iconst 0, 1) := by decide +kernel
theorem dX2_sortByLevel_23 : decode cX2_sortByLevel 23 = .ok (.istore_n 2, 1) := by decide +kernel
theorem dX2_sortByLevel_24 : decode cX2_sortByLevel 24 = .ok (.iload_n 2, 1) := by decide +kernel
theorem dX2_sortByLevel_25 : decode cX2_sortByLevel 25 = .ok (.iload_n 1, 1) := by decide +kernel
theorem dX2_sortByLevel_26 : decode cX2_sortByLevel 26 = .ok (.if_icmp .ge 31, 3) := by decide +kernel
theorem dX2_sortByLevel_29 : decode cX2_sortByLevel 29 = .ok (.aload_n 0, 1) := by decide +kernel
theorem dX2_sortByLevel_30 : decode cX2_sortByLevel 30 = .ok (.getfield 11, 3) := by decide +kernel
theorem dX2_sortByLevel_33 : decode cX2_sortByLevel 33 = .ok (.aload_n 0, 1) := by decide +kernel
theorem dX2_sortByLevel_34 : decode cX2_sortByLevel 34 = .ok (.aload_n 0, 1) := by decide +kernel
theorem dX2_sortByLevel_35 : decode cX2_sortByLevel 35 = .ok (.getfield 36, 3) := by decide +kernel
theorem dX2_sortByLevel_38 : decode cX2_sortByLevel 38 = .ok (.getfield 74, 3) := by decide +kernel
theorem dX2_sortByLevel_41 : decode cX2_sortByLevel 41 = .ok (.iload_n 2, 1) := by decide +kernel
theorem dX2_sortByLevel_42 : decode cX2_sortByLevel 42 = .ok (.iaload, 1) := by decide +kernel
theorem dX2_sortByLevel_43 : decode cX2_sortByLevel 43 = .ok (.invokevirtual 77, 3) := by decide +kernel
theorem dX2_sortByLevel_46 : decode cX2_sortByLevel 46 = .ok (.dup2, 1) := by decide +kernel
theorem dX2_sortByLevel_47 : decode cX2_sortByLevel 47 = .ok (.iaload, 1) := by decide +kernel
theorem dX2_sortByLevel_48 : decode cX2_sortByLevel 48 = .ok (.iconst 1, 1) := by decide +kernel
theorem dX2_sortByLevel_49 : decode cX2_sortByLevel 49 = .ok (.iadd, 1) := by decide +kernel
theorem dX2_sortByLevel_50 : decode cX2_sortByLevel 50 = .ok (.iastore, 1) := by decide +kernel
theorem dX2_sortByLevel_51 : decode cX2_sortByLevel 51 = .ok (.iinc 2 1, 3) := by decide +kernel
theorem dX2_sortByLevel_54 : decode cX2_sortByLevel 54 = .ok (.goto (-30), 3) := by decide +kernel
theorem dX2_sortByLevel_57 : decode cX2_sortByLevel 57 = .ok (.iconst 1, 1) := by decide +kernel
theorem dX2_sortByLevel_58 : decode cX2_sortByLevel 58 = .ok (.istore_n 2, 1) := by decide +kernel
theorem dX2_sortByLevel_59 : decode cX2_sortByLevel 59 = .ok (.iload_n 2, 1) := by decide +kernel
theorem dX2_sortByLevel_60 : decode cX2_sortByLevel 60 = .ok (.sipush 145, 3) := by decide +kernel
theorem dX2_sortByLevel_63 : decode cX2_sortByLevel 63 = .ok (.if_icmp .ge 26, 3) := by decide +kernel
theorem dX2_sortByLevel_66 : decode cX2_sortByLevel 66 = .ok (.aload_n 0, 1) := by decide +kernel
theorem dX2_sortByLevel_67 : decode cX2_sortByLevel 67 = .ok (.getfield 11, 3) := by decide +kernel
theorem dX2_sortByLevel_70 : decode cX2_sortByLevel 70 = .ok (.iload_n 2, 1) := by decide +kernel
theorem dX2_sortByLevel_71 : decode cX2_sortByLevel 71 = .ok (.dup2, 1) := by decide +kernel
theorem dX2_sortByLevel_72 : decode cX2_sortByLevel 72 = .ok (.iaload, 1) := by decide +kernel
theorem dX2_sortByLevel_73 : decode cX2_sortByLevel 73 = .ok (.aload_n 0, 1) := by decide +kernel
theorem dX2_sortByLevel_74 : decode cX2_sortByLevel 74 = .ok (.getfield 11, 3) := by decide +kernel
theorem dX2_sortByLevel_77 : decode cX2_sortByLevel 77 = .ok (.iload_n 2, 1) := by decide +kernel
theorem dX2_sortByLevel_78 : decode cX2_sortByLevel 78 = .ok (.iconst 1, 1) := by decide +kernel
theorem dX2_sortByLevel_79 : decode cX2_sortByLevel 79 = .ok (.isub, 1) := by decide +kernel
theorem dX2_sortByLevel_80 : decode cX2_sortByLevel 80 = .ok (.iaload, 1) := by decide +kernel
theorem dX2_sortByLevel_81 : decode cX2_sortByLevel 81 = .ok (.iadd, 1) := by decide +kernel
theorem dX2_sortByLevel_82 : decode cX2_sortByLevel 82 = .ok (.iastore, 1) := by decide +kernel
theorem dX2_sortByLevel_83 : decode cX2_sortByLevel 83 = .ok (.iinc 2 1, 3) := by decide +kernel
theorem dX2_sortByLevel_86 : decode cX2_sortByLevel 86 = .ok (.goto (-27), 3) := by decide +kernel
theorem dX2_sortByLevel_89 : decode cX2_sortByLevel 89 = .ok (.iconst 0, 1) := by decide +kernel
theorem dX2_sortByLevel_90 : decode cX2_sortByLevel 90 = .ok (.istore_n 2, 1) := by decide +kernel
theorem dX2_sortByLevel_91 : decode cX2_sortByLevel 91 = .ok (.iload_n 2, 1) := by decide +kernel
theorem dX2_sortByLevel_92 : decode cX2_sortByLevel 92 = .ok (.iload_n 1, 1) := by decide +kernel
theorem dX2_sortByLevel_93 : decode cX2_sortByLevel 93 = .ok (.if_icmp .ge 70, 3) := by decide +kernel
theorem dX2_sortByLevel_96 : decode cX2_sortByLevel 96 = .ok (.aload_n 0, 1) := by decide +kernel
theorem dX2_sortByLevel_97 : decode cX2_sortByLevel 97 = .ok (.aload_n 0, 1) := by decide +kernel
theorem dX2_sortByLevel_98 : decode cX2_sortByLevel 98 = .ok (.getfield 36, 3) := by decide +kernel
theorem dX2_sortByLevel_101 : decode cX2_sortByLevel 101 = .ok (.getfield 74, 3) := by decide +kernel
theorem dX2_sortByLevel_104 : decode cX2_sortByLevel 104 = .ok (.iload_n 2, 1) := by decide +kernel
theorem dX2_sortByLevel_105 : decode cX2_sortByLevel 105 = .ok (.iaload, 1) := by decide +kernel
theorem dX2_sortByLevel_106 : decode cX2_sortByLevel 106 = .ok (.invokevirtual 77, 3) := by decide +kernel
theorem dX2_sortByLevel_109 : decode cX2_sortByLevel 109 = .ok (.istore_n 3, 1) := by decide +kernel
theorem dX2_sortByLevel_110 : decode cX2_sortByLevel 110 = .ok (.aload_n 0, 1) := by decide +kernel
theorem dX2_sortByLevel_111 : decode cX2_sortByLevel 111 = .ok (.getfield 11, 3) := by decide +kernel
theorem dX2_sortByLevel_114 : decode cX2_sortByLevel 114 = .ok (.iload_n 3, 1) := by decide +kernel
theorem dX2_sortByLevel_115 : decode cX2_sortByLevel 115 = .ok (.dup2, 1) := by decide +kernel
theorem dX2_sortByLevel_116 : decode cX2_sortByLevel 116 = .ok (.iaload, 1) := by decide +kernel
theorem dX2_sortByLevel_117 : decode cX2_sortByLevel 117 = .ok (.iconst 1, 1) := by decide +kernel
theorem dX2_sortByLevel_118 : decode cX2_sortByLevel 118 = .ok (.isub, 1) := by decide +kernel
theorem dX2_sortByLevel_119 : decode cX2_sortByLevel 119 = .ok (.iastore, 1) := by decide +kernel
theorem dX2_sortByLevel_120 : decode cX2_sortByLevel 120 = .ok (.aload_n 0, 1) := by decide +kernel
theorem dX2_sortByLevel_121 : decode cX2_sortByLevel 121 = .ok (.getfield 11, 3) := by decide +kernel
theorem dX2_sortByLevel_124 : decode cX2_sortByLevel 124 = .ok (.iload_n 3, 1) := by decide +kernel
theorem dX2_sortByLevel_125 : decode cX2_sortByLevel 125 = .ok (.iaload, 1) := by decide +kernel
theorem dX2_sortByLevel_126 : decode cX2_sortByLevel 126 = .ok (.istore 4, 2) := by decide +kernel
theorem dX2_sortByLevel_128 : decode cX2_sortByLevel 128 = .ok (.iload 4, 2) := by decide +kernel
theorem dX2_sortByLevel_130 : decode cX2_sortByLevel 130 = .ok (.ifCond .lt 27, 3) := by decide +kernel
theorem dX2_sortByLevel_133 : decode cX2_sortByLevel 133 = .ok (.iload 4, 2) := by decide +kernel
theorem dX2_sortByLevel_135 : decode cX2_sortByLevel 135 = .ok (.sipush 1680, 3) := by decide +kernel
theorem dX2_sortByLevel_138 : decode cX2_sortByLevel 138 = .ok (.if_icmp .ge 19, 3) := by decide +kernel
theorem dX2_sortByLevel_141 : decode cX2_sortByLevel 141 = .ok (.aload_n 0, 1) := by decide +kernel
theorem dX2_sortByLevel_142 : decode cX2_sortByLevel 142 = .ok (.getfield 15, 3) := by decide +kernel
theorem dX2_sortByLevel_145 : decode cX2_sortByLevel 145 = .ok (.iload 4, 2) := by decide +kernel
theorem dX2_sortByLevel_147 : decode cX2_sortByLevel 147 = .ok (.aload_n 0, 1) := by decide +kernel
theorem dX2_sortByLevel_148 : decode cX2_sortByLevel 148 = .ok (.getfield 36, 3) := by decide +kernel
theorem dX2_sortByLevel_151 : decode cX2_sortByLevel 151 = .ok (.getfield 74, 3) := by decide +kernel
theorem dX2_sortByLevel_154 : decode cX2_sortByLevel 154 = .ok (.iload_n 2, 1) := by decide +kernel
theorem dX2_sortByLevel_155 : decode cX2_sortByLevel 155 = .ok (.iaload, 1) := by decide +kernel
theorem dX2_sortByLevel_156 : decode cX2_sortByLevel 156 = .ok (.iastore, 1) := by decide +kernel
theorem dX2_sortByLevel_157 : decode cX2_sortByLevel 157 = .ok (.iinc 2 1, 3) := by decide +kernel
theorem dX2_sortByLevel_160 : decode cX2_sortByLevel 160 = .ok (.goto (-69), 3) := by decide +kernel
theorem dX2_sortByLevel_163 : decode cX2_sortByLevel 163 = .ok (.return_, 1) := by decide +kernel
set_option maxRecDepth 20000 in
theorem ggX2_levelOf_X9_kindAt : GoodIn wsX2_levelOf wsX9_kindAt := goodIn_r _ [12] (by decide +kernel) (by decide +kernel)
set_option maxRecDepth 20000 in
theorem gX2_levelOf_X9_kindAt_n86 : GoodIn wsX2_levelOf (wsX9_kindAt) := ggX2_levelOf_X9_kindAt
set_option maxRecDepth 20000 in
theorem ggX2_levelOf_X6_depthOf : GoodIn wsX2_levelOf wsX6_depthOf := goodIn_r _ [17, 18, 28, 29, 30, 31, 32, 33] (by decide +kernel) (by decide +kernel)
set_option maxRecDepth 20000 in
theorem gX2_levelOf_X6_depthOf : GoodIn wsX2_levelOf (wsV RX2 89 RX6 yX6_depthOf wsX6_depthOf) := goodIn_app (goodIn_of _ (by decide +kernel)) ggX2_levelOf_X6_depthOf
theorem dX2_levelOf_0 : decode cX2_levelOf 0 = .ok (.bipush 72, 2) := by decide +kernel
theorem dX2_levelOf_2 : decode cX2_levelOf 2 = .ok (.istore_n 2, 1) := by decide +kernel
theorem dX2_levelOf_3 : decode cX2_levelOf 3 = .ok (.iconst 0, 1) := by decide +kernel
theorem dX2_levelOf_4 : decode cX2_levelOf 4 = .ok (.istore_n 3, 1) := by decide +kernel
theorem dX2_levelOf_5 : decode cX2_levelOf 5 = .ok (.iload_n 3, 1) := by decide +kernel
theorem dX2_levelOf_6 : decode cX2_levelOf 6 = .ok (.aload_n 0, 1) := by decide +kernel
theorem dX2_levelOf_7 : decode cX2_levelOf 7 = .ok (.getfield 24, 3) := by decide +kernel
theorem dX2_levelOf_10 : decode cX2_levelOf 10 = .ok (.getfield 81, 3) := by decide +kernel
theorem dX2_levelOf_13 : decode cX2_levelOf 13 = .ok (.if_icmp .ge 53, 3) := by decide +kernel
theorem dX2_levelOf_16 : decode cX2_levelOf 16 = .ok (.iload_n 1, 1) := by decide +kernel
theorem dX2_levelOf_17 : decode cX2_levelOf 17 = .ok (.iload_n 3, 1) := by decide +kernel
theorem dX2_levelOf_18 : decode cX2_levelOf 18 = .ok (.invokestatic 86, 3) := by decide +kernel
theorem dX2_levelOf_21 : decode cX2_levelOf 21 = .ok (.istore 4, 2) := by decide +kernel
theorem dX2_levelOf_23 : decode cX2_levelOf 23 = .ok (.iload 4, 2) := by decide +kernel
theorem dX2_levelOf_25 : decode cX2_levelOf 25 = .ok (.iconst 1, 1) := by decide +kernel
theorem dX2_levelOf_26 : decode cX2_levelOf 26 = .ok (.if_icmp .ne 17, 3) := by decide +kernel
theorem dX2_levelOf_29 : decode cX2_levelOf 29 = .ok (.iload_n 2, 1) := by decide +kernel
theorem dX2_levelOf_30 : decode cX2_levelOf 30 = .ok (.aload_n 0, 1) := by decide +kernel
theorem dX2_levelOf_31 : decode cX2_levelOf 31 = .ok (.getfield 24, 3) := by decide +kernel
theorem dX2_levelOf_34 : decode cX2_levelOf 34 = .ok (.iload_n 3, 1) := by decide +kernel
theorem dX2_levelOf_35 : decode cX2_levelOf 35 = .ok (.invokevirtual 89, 3) := by decide +kernel
theorem dX2_levelOf_38 : decode cX2_levelOf 38 = .ok (.iadd, 1) := by decide +kernel
theorem dX2_levelOf_39 : decode cX2_levelOf 39 = .ok (.istore_n 2, 1) := by decide +kernel
theorem dX2_levelOf_40 : decode cX2_levelOf 40 = .ok (.goto 20, 3) := by decide +kernel
theorem dX2_levelOf_43 : decode cX2_levelOf 43 = .ok (.iload 4, 2) := by decide +kernel
theorem dX2_levelOf_45 : decode cX2_levelOf 45 = .ok (.iconst 2, 1) := by decide +kernel
theorem dX2_levelOf_46 : decode cX2_levelOf 46 = .ok (.if_icmp .ne 14, 3) := by decide +kernel
theorem dX2_levelOf_49 : decode cX2_levelOf 49 = .ok (.iload_n 2, 1) := by decide +kernel
theorem dX2_levelOf_50 : decode cX2_levelOf 50 = .ok (.aload_n 0, 1) := by decide +kernel
theorem dX2_levelOf_51 : decode cX2_levelOf 51 = .ok (.getfield 24, 3) := by decide +kernel
theorem dX2_levelOf_54 : decode cX2_levelOf 54 = .ok (.iload_n 3, 1) := by decide +kernel
theorem dX2_levelOf_55 : decode cX2_levelOf 55 = .ok (.invokevirtual 89, 3) := by decide +kernel
theorem dX2_levelOf_58 : decode cX2_levelOf 58 = .ok (.isub, 1) := by decide +kernel
theorem dX2_levelOf_59 : decode cX2_levelOf 59 = .ok (.istore_n 2, 1) := by decide +kernel
theorem dX2_levelOf_60 : decode cX2_levelOf 60 = .ok (.iinc 3 1, 3) := by decide +kernel
theorem dX2_levelOf_63 : decode cX2_levelOf 63 = .ok (.goto (-58), 3) := by decide +kernel
theorem dX2_levelOf_66 : decode cX2_levelOf 66 = .ok (.iconst 0, 1) := by decide +kernel
theorem dX2_levelOf_67 : decode cX2_levelOf 67 = .ok (.iload_n 2, 1) := by decide +kernel
theorem dX2_levelOf_68 : decode cX2_levelOf 68 = .ok (.sipush 144, 3) := by decide +kernel
theorem dX2_levelOf_71 : decode cX2_levelOf 71 = .ok (.invokestatic 59, 3) := by decide +kernel
theorem dX2_levelOf_74 : decode cX2_levelOf 74 = .ok (.invokestatic 92, 3) := by decide +kernel
theorem dX2_levelOf_77 : decode cX2_levelOf 77 = .ok (.ireturn, 1) := by decide +kernel
set_option maxRecDepth 20000 in
theorem ggX2_settle_X3_find : GoodIn wsX2_settle wsX3_find := goodIn_r _ [15, 16, 17, 18, 19, 20, 21, 22, 23, 24, 25, 26, 27, 28, 14, 29, 30, 31, 32, 33, 34, 35, 36, 37, 38, 39, 40, 41, 42, 43, 44, 45, 96, 97, 90, 91, 92, 93, 94, 95] (by decide +kernel) (by decide +kernel)
set_option maxRecDepth 20000 in
theorem gX2_settle_X3_find : GoodIn wsX2_settle (wsV RX2 95 RX3 yX3_find wsX3_find) := goodIn_app (goodIn_of _ (by decide +kernel)) ggX2_settle_X3_find
set_option maxRecDepth 20000 in
theorem ggX2_settle_X9_kindAt : GoodIn wsX2_settle wsX9_kindAt := goodIn_r _ [25] (by decide +kernel) (by decide +kernel)
set_option maxRecDepth 20000 in
theorem gX2_settle_X9_kindAt_n86 : GoodIn wsX2_settle (wsX9_kindAt) := ggX2_settle_X9_kindAt
set_option maxRecDepth 20000 in
theorem ggX2_settle_X3_has : GoodIn wsX2_settle wsX3_has := goodIn_r _ [49, 50, 51, 52, 14, 53, 16, 96, 97] (by decide +kernel) (by decide +kernel)
set_option maxRecDepth 20000 in
theorem gX2_settle_X3_has : GoodIn wsX2_settle (wsV RX2 100 RX3 yX3_has wsX3_has) := goodIn_app (goodIn_of _ (by decide +kernel)) ggX2_settle_X3_has
set_option maxRecDepth 20000 in
theorem ggX2_settle_X9_afterMove : GoodIn wsX2_settle wsX9_afterMove := goodIn_r _ [55, 56, 23, 24, 25] (by decide +kernel) (by decide +kernel)
set_option maxRecDepth 20000 in
theorem gX2_settle_X9_afterMove_n104 : GoodIn wsX2_settle (wsX9_afterMove) := ggX2_settle_X9_afterMove
set_option maxRecDepth 20000 in
theorem ggX2_settle_X2_mostMovesFrom : GoodIn wsX2_settle wsX2_mostMovesFrom := goodIn_r _ [61, 8, 9, 62, 63, 64, 65, 66, 67, 68, 69, 70, 71, 72, 60, 73, 81, 82, 83, 84, 85, 86, 87, 88, 89, 98, 99, 100, 101, 102] (by decide +kernel) (by decide +kernel)
set_option maxRecDepth 20000 in
theorem gX2_settle_X2_mostMovesFrom : GoodIn wsX2_settle (wsV RX2 108 RX2 yX2_mostMovesFrom wsX2_mostMovesFrom) := goodIn_app (goodIn_of _ (by decide +kernel)) ggX2_settle_X2_mostMovesFrom
set_option maxRecDepth 20000 in
theorem ggX2_settle_X2_otherColour : GoodIn wsX2_settle wsX2_otherColour := goodIn_r _ [76] (by decide +kernel) (by decide +kernel)
set_option maxRecDepth 20000 in
theorem gX2_settle_X2_otherColour : GoodIn wsX2_settle (va_wsS RX2 111 yX2_otherColour wsX2_otherColour) := goodIn_app (goodIn_of _ (by decide +kernel)) ggX2_settle_X2_otherColour
set_option maxRecDepth 20000 in
theorem ggX2_settle_X2_wins : GoodIn wsX2_settle wsX2_wins := goodIn_r _ [80, 8, 10, 62, 63, 64, 65, 66, 67, 68, 69, 70, 71, 72, 60, 73, 81, 82, 83, 84, 85, 86, 87, 88, 89, 98, 99, 100, 101, 102] (by decide +kernel) (by decide +kernel)
set_option maxRecDepth 20000 in
theorem gX2_settle_X2_wins : GoodIn wsX2_settle (wsV RX2 114 RX2 yX2_wins wsX2_wins) := goodIn_app (goodIn_of _ (by decide +kernel)) ggX2_settle_X2_wins
set_option maxRecDepth 20000 in
theorem ggX2_settle_X4_numberOf : GoodIn wsX2_settle wsX4_numberOf := goodIn_r _ [66, 67, 68, 69, 70, 98, 99, 100, 101, 102] (by decide +kernel) (by decide +kernel)
set_option maxRecDepth 20000 in
theorem gX2_settle_X4_numberOf : GoodIn wsX2_settle (wsV RX2 117 RX4 yX4_numberOf wsX4_numberOf) := goodIn_app (goodIn_of _ (by decide +kernel)) ggX2_settle_X4_numberOf
set_option maxRecDepth 20000 in
theorem ggX2_settle_X2_hasPlace : GoodIn wsX2_settle wsX2_hasPlace := goodIn_r _ [73] (by decide +kernel) (by decide +kernel)
set_option maxRecDepth 20000 in
theorem gX2_settle_X2_hasPlace : GoodIn wsX2_settle (va_wsS RX2 122 yX2_hasPlace wsX2_hasPlace) := goodIn_app (goodIn_of _ (by decide +kernel)) ggX2_settle_X2_hasPlace
theorem dX2_settle_0 : decode cX2_settle 0 = .ok (.iconst 0, 1) := by decide +kernel
theorem dX2_settle_1 : decode cX2_settle 1 = .ok (.istore_n 2, 1) := by decide +kernel
theorem dX2_settle_2 : decode cX2_settle 2 = .ok (.iconst 0, 1) := by decide +kernel
theorem dX2_settle_3 : decode cX2_settle 3 = .ok (.istore_n 3, 1) := by decide +kernel
theorem dX2_settle_4 : decode cX2_settle 4 = .ok (.aload_n 0, 1) := by decide +kernel
theorem dX2_settle_5 : decode cX2_settle 5 = .ok (.getfield 28, 3) := by decide +kernel
theorem dX2_settle_8 : decode cX2_settle 8 = .ok (.iload_n 1, 1) := by decide +kernel
theorem dX2_settle_9 : decode cX2_settle 9 = .ok (.invokevirtual 95, 3) := by decide +kernel
theorem dX2_settle_12 : decode cX2_settle 12 = .ok (.iconst 0, 1) := by decide +kernel
theorem dX2_settle_13 : decode cX2_settle 13 = .ok (.istore 4, 2) := by decide +kernel
theorem dX2_settle_15 : decode cX2_settle 15 = .ok (.iload 4, 2) := by decide +kernel
theorem dX2_settle_17 : decode cX2_settle 17 = .ok (.aload_n 0, 1) := by decide +kernel
theorem dX2_settle_18 : decode cX2_settle 18 = .ok (.getfield 24, 3) := by decide +kernel
theorem dX2_settle_21 : decode cX2_settle 21 = .ok (.getfield 81, 3) := by decide +kernel
theorem dX2_settle_24 : decode cX2_settle 24 = .ok (.if_icmp .ge 94, 3) := by decide +kernel
theorem dX2_settle_27 : decode cX2_settle 27 = .ok (.iload_n 1, 1) := by decide +kernel
theorem dX2_settle_28 : decode cX2_settle 28 = .ok (.iload 4, 2) := by decide +kernel
theorem dX2_settle_30 : decode cX2_settle 30 = .ok (.invokestatic 86, 3) := by decide +kernel
theorem dX2_settle_33 : decode cX2_settle 33 = .ok (.istore 5, 2) := by decide +kernel
theorem dX2_settle_35 : decode cX2_settle 35 = .ok (.iconst 0, 1) := by decide +kernel
theorem dX2_settle_36 : decode cX2_settle 36 = .ok (.istore 6, 2) := by decide +kernel
theorem dX2_settle_38 : decode cX2_settle 38 = .ok (.iload 6, 2) := by decide +kernel
theorem dX2_settle_40 : decode cX2_settle 40 = .ok (.aload_n 0, 1) := by decide +kernel
theorem dX2_settle_41 : decode cX2_settle 41 = .ok (.getfield 24, 3) := by decide +kernel
theorem dX2_settle_44 : decode cX2_settle 44 = .ok (.getfield 81, 3) := by decide +kernel
theorem dX2_settle_47 : decode cX2_settle 47 = .ok (.if_icmp .ge 65, 3) := by decide +kernel
theorem dX2_settle_50 : decode cX2_settle 50 = .ok (.aload_n 0, 1) := by decide +kernel
theorem dX2_settle_51 : decode cX2_settle 51 = .ok (.getfield 28, 3) := by decide +kernel
theorem dX2_settle_54 : decode cX2_settle 54 = .ok (.iload 4, 2) := by decide +kernel
theorem dX2_settle_56 : decode cX2_settle 56 = .ok (.iload 6, 2) := by decide +kernel
theorem dX2_settle_58 : decode cX2_settle 58 = .ok (.invokevirtual 100, 3) := by decide +kernel
theorem dX2_settle_61 : decode cX2_settle 61 = .ok (.ifCond .eq 45, 3) := by decide +kernel
theorem dX2_settle_64 : decode cX2_settle 64 = .ok (.iload_n 1, 1) := by decide +kernel
theorem dX2_settle_65 : decode cX2_settle 65 = .ok (.iload 4, 2) := by decide +kernel
theorem dX2_settle_67 : decode cX2_settle 67 = .ok (.iload 6, 2) := by decide +kernel
theorem dX2_settle_69 : decode cX2_settle 69 = .ok (.invokestatic 104, 3) := by decide +kernel
theorem dX2_settle_72 : decode cX2_settle 72 = .ok (.istore 7, 2) := by decide +kernel
theorem dX2_settle_74 : decode cX2_settle 74 = .ok (.iload_n 2, 1) := by decide +kernel
theorem dX2_settle_75 : decode cX2_settle 75 = .ok (.aload_n 0, 1) := by decide +kernel
theorem dX2_settle_76 : decode cX2_settle 76 = .ok (.iload 7, 2) := by decide +kernel
theorem dX2_settle_78 : decode cX2_settle 78 = .ok (.invokevirtual 108, 3) := by decide +kernel
theorem dX2_settle_81 : decode cX2_settle 81 = .ok (.iconst 1, 1) := by decide +kernel
theorem dX2_settle_82 : decode cX2_settle 82 = .ok (.iadd, 1) := by decide +kernel
theorem dX2_settle_83 : decode cX2_settle 83 = .ok (.invokestatic 92, 3) := by decide +kernel
theorem dX2_settle_86 : decode cX2_settle 86 = .ok (.istore_n 2, 1) := by decide +kernel
theorem dX2_settle_87 : decode cX2_settle 87 = .ok (.aload_n 0, 1) := by decide +kernel
theorem dX2_settle_88 : decode cX2_settle 88 = .ok (.iload 7, 2) := by decide +kernel
theorem dX2_settle_90 : decode cX2_settle 90 = .ok (.iload 5, 2) := by decide +kernel
theorem dX2_settle_92 : decode cX2_settle 92 = .ok (.invokestatic 111, 3) := by decide +kernel
theorem dX2_settle_95 : decode cX2_settle 95 = .ok (.invokevirtual 114, 3) := by decide +kernel
theorem dX2_settle_98 : decode cX2_settle 98 = .ok (.ifCond .ne 8, 3) := by decide +kernel
theorem dX2_settle_101 : decode cX2_settle 101 = .ok (.iload_n 3, 1) := by decide +kernel
theorem dX2_settle_102 : decode cX2_settle 102 = .ok (.iload 5, 2) := by decide +kernel
theorem dX2_settle_104 : decode cX2_settle 104 = .ok (.ior, 1) := by decide +kernel
theorem dX2_settle_105 : decode cX2_settle 105 = .ok (.istore_n 3, 1) := by decide +kernel
theorem dX2_settle_106 : decode cX2_settle 106 = .ok (.iinc 6 1, 3) := by decide +kernel
theorem dX2_settle_109 : decode cX2_settle 109 = .ok (.goto (-71), 3) := by decide +kernel
theorem dX2_settle_112 : decode cX2_settle 112 = .ok (.iinc 4 1, 3) := by decide +kernel
theorem dX2_settle_115 : decode cX2_settle 115 = .ok (.goto (-100), 3) := by decide +kernel
theorem dX2_settle_118 : decode cX2_settle 118 = .ok (.aload_n 0, 1) := by decide +kernel
theorem dX2_settle_119 : decode cX2_settle 119 = .ok (.getfield 32, 3) := by decide +kernel
theorem dX2_settle_122 : decode cX2_settle 122 = .ok (.iload_n 1, 1) := by decide +kernel
theorem dX2_settle_123 : decode cX2_settle 123 = .ok (.invokevirtual 117, 3) := by decide +kernel
theorem dX2_settle_126 : decode cX2_settle 126 = .ok (.istore 4, 2) := by decide +kernel
theorem dX2_settle_128 : decode cX2_settle 128 = .ok (.iload 4, 2) := by decide +kernel
theorem dX2_settle_130 : decode cX2_settle 130 = .ok (.invokestatic 122, 3) := by decide +kernel
theorem dX2_settle_133 : decode cX2_settle 133 = .ok (.ifCond .eq 19, 3) := by decide +kernel
theorem dX2_settle_136 : decode cX2_settle 136 = .ok (.aload_n 0, 1) := by decide +kernel
theorem dX2_settle_137 : decode cX2_settle 137 = .ok (.getfield 18, 3) := by decide +kernel
theorem dX2_settle_140 : decode cX2_settle 140 = .ok (.iload 4, 2) := by decide +kernel
theorem dX2_settle_142 : decode cX2_settle 142 = .ok (.iload_n 2, 1) := by decide +kernel
theorem dX2_settle_143 : decode cX2_settle 143 = .ok (.iastore, 1) := by decide +kernel
theorem dX2_settle_144 : decode cX2_settle 144 = .ok (.aload_n 0, 1) := by decide +kernel
theorem dX2_settle_145 : decode cX2_settle 145 = .ok (.getfield 21, 3) := by decide +kernel
theorem dX2_settle_148 : decode cX2_settle 148 = .ok (.iload 4, 2) := by decide +kernel
theorem dX2_settle_150 : decode cX2_settle 150 = .ok (.iload_n 3, 1) := by decide +kernel
theorem dX2_settle_151 : decode cX2_settle 151 = .ok (.iastore, 1) := by decide +kernel
theorem dX2_settle_152 : decode cX2_settle 152 = .ok (.return_, 1) := by decide +kernel
theorem dX2_hasPlace_0 : decode cX2_hasPlace 0 = .ok (.iload_n 0, 1) := by decide +kernel
theorem dX2_hasPlace_1 : decode cX2_hasPlace 1 = .ok (.ifCond .lt 14, 3) := by decide +kernel
theorem dX2_hasPlace_4 : decode cX2_hasPlace 4 = .ok (.iload_n 0, 1) := by decide +kernel
theorem dX2_hasPlace_5 : decode cX2_hasPlace 5 = .ok (.sipush 1680, 3) := by decide +kernel
theorem dX2_hasPlace_8 : decode cX2_hasPlace 8 = .ok (.if_icmp .ge 7, 3) := by decide +kernel
theorem dX2_hasPlace_11 : decode cX2_hasPlace 11 = .ok (.iconst 1, 1) := by decide +kernel
theorem dX2_hasPlace_12 : decode cX2_hasPlace 12 = .ok (.goto 4, 3) := by decide +kernel
theorem dX2_hasPlace_15 : decode cX2_hasPlace 15 = .ok (.iconst 0, 1) := by decide +kernel
theorem dX2_hasPlace_16 : decode cX2_hasPlace 16 = .ok (.ireturn, 1) := by decide +kernel
theorem dX2_otherColour_0 : decode cX2_otherColour 0 = .ok (.iload_n 0, 1) := by decide +kernel
theorem dX2_otherColour_1 : decode cX2_otherColour 1 = .ok (.iconst 1, 1) := by decide +kernel
theorem dX2_otherColour_2 : decode cX2_otherColour 2 = .ok (.if_icmp .ne 7, 3) := by decide +kernel
theorem dX2_otherColour_5 : decode cX2_otherColour 5 = .ok (.iconst 2, 1) := by decide +kernel
theorem dX2_otherColour_6 : decode cX2_otherColour 6 = .ok (.goto 4, 3) := by decide +kernel
theorem dX2_otherColour_9 : decode cX2_otherColour 9 = .ok (.iconst 1, 1) := by decide +kernel
theorem dX2_otherColour_10 : decode cX2_otherColour 10 = .ok (.ireturn, 1) := by decide +kernel
set_option maxRecDepth 20000 in
theorem ggX2_mostMovesFrom_X4_numberOf : GoodIn wsX2_mostMovesFrom wsX4_numberOf := goodIn_r _ [7, 8, 9, 10, 11, 25, 26, 27, 28, 29] (by decide +kernel) (by decide +kernel)
set_option maxRecDepth 20000 in
theorem gX2_mostMovesFrom_X4_numberOf : GoodIn wsX2_mostMovesFrom (wsV RX2 117 RX4 yX4_numberOf wsX4_numberOf) := goodIn_app (goodIn_of _ (by decide +kernel)) ggX2_mostMovesFrom_X4_numberOf
set_option maxRecDepth 20000 in
theorem ggX2_mostMovesFrom_X2_hasPlace : GoodIn wsX2_mostMovesFrom wsX2_hasPlace := goodIn_r _ [15] (by decide +kernel) (by decide +kernel)
set_option maxRecDepth 20000 in
theorem gX2_mostMovesFrom_X2_hasPlace : GoodIn wsX2_mostMovesFrom (va_wsS RX2 122 yX2_hasPlace wsX2_hasPlace) := goodIn_app (goodIn_of _ (by decide +kernel)) ggX2_mostMovesFrom_X2_hasPlace
theorem dX2_mostMovesFrom_0 : decode cX2_mostMovesFrom 0 = .ok (.aload_n 0, 1) := by decide +kernel
theorem dX2_mostMovesFrom_1 : decode cX2_mostMovesFrom 1 = .ok (.getfield 32, 3) := by decide +kernel
theorem dX2_mostMovesFrom_4 : decode cX2_mostMovesFrom 4 = .ok (.iload_n 1, 1) := by decide +kernel
theorem dX2_mostMovesFrom_5 : decode cX2_mostMovesFrom 5 = .ok (.invokevirtual 117, 3) := by decide +kernel
theorem dX2_mostMovesFrom_8 : decode cX2_mostMovesFrom 8 = .ok (.istore_n 2, 1) := by decide +kernel
theorem dX2_mostMovesFrom_9 : decode cX2_mostMovesFrom 9 = .ok (.iload_n 2, 1) := by decide +kernel
theorem dX2_mostMovesFrom_10 : decode cX2_mostMovesFrom 10 = .ok (.invokestatic 122, 3) := by decide +kernel
theorem dX2_mostMovesFrom_13 : decode cX2_mostMovesFrom 13 = .ok (.ifCond .eq 12, 3) := by decide +kernel
theorem dX2_mostMovesFrom_16 : decode cX2_mostMovesFrom 16 = .ok (.aload_n 0, 1) := by decide +kernel
theorem dX2_mostMovesFrom_17 : decode cX2_mostMovesFrom 17 = .ok (.getfield 18, 3) := by decide +kernel
theorem dX2_mostMovesFrom_20 : decode cX2_mostMovesFrom 20 = .ok (.iload_n 2, 1) := by decide +kernel
theorem dX2_mostMovesFrom_21 : decode cX2_mostMovesFrom 21 = .ok (.iaload, 1) := by decide +kernel
theorem dX2_mostMovesFrom_22 : decode cX2_mostMovesFrom 22 = .ok (.goto 4, 3) := by decide +kernel
theorem dX2_mostMovesFrom_25 : decode cX2_mostMovesFrom 25 = .ok (.iconst 0, 1) := by decide +kernel
theorem dX2_mostMovesFrom_26 : decode cX2_mostMovesFrom 26 = .ok (.ireturn, 1) := by decide +kernel
set_option maxRecDepth 20000 in
theorem ggX2_wins_X4_numberOf : GoodIn wsX2_wins wsX4_numberOf := goodIn_r _ [7, 8, 9, 10, 11, 25, 26, 27, 28, 29] (by decide +kernel) (by decide +kernel)
set_option maxRecDepth 20000 in
theorem gX2_wins_X4_numberOf : GoodIn wsX2_wins (wsV RX2 117 RX4 yX4_numberOf wsX4_numberOf) := goodIn_app (goodIn_of _ (by decide +kernel)) ggX2_wins_X4_numberOf
set_option maxRecDepth 20000 in
theorem ggX2_wins_X2_hasPlace : GoodIn wsX2_wins wsX2_hasPlace := goodIn_r _ [15] (by decide +kernel) (by decide +kernel)
set_option maxRecDepth 20000 in
theorem gX2_wins_X2_hasPlace : GoodIn wsX2_wins (va_wsS RX2 122 yX2_hasPlace wsX2_hasPlace) := goodIn_app (goodIn_of _ (by decide +kernel)) ggX2_wins_X2_hasPlace
theorem dX2_wins_0 : decode cX2_wins 0 = .ok (.aload_n 0, 1) := by decide +kernel
theorem dX2_wins_1 : decode cX2_wins 1 = .ok (.getfield 32, 3) := by decide +kernel
theorem dX2_wins_4 : decode cX2_wins 4 = .ok (.iload_n 1, 1) := by decide +kernel
theorem dX2_wins_5 : decode cX2_wins 5 = .ok (.invokevirtual 117, 3) := by decide +kernel
theorem dX2_wins_8 : decode cX2_wins 8 = .ok (.istore_n 3, 1) := by decide +kernel
theorem dX2_wins_9 : decode cX2_wins 9 = .ok (.iload_n 3, 1) := by decide +kernel
theorem dX2_wins_10 : decode cX2_wins 10 = .ok (.invokestatic 122, 3) := by decide +kernel
theorem dX2_wins_13 : decode cX2_wins 13 = .ok (.ifCond .eq 18, 3) := by decide +kernel
theorem dX2_wins_16 : decode cX2_wins 16 = .ok (.aload_n 0, 1) := by decide +kernel
theorem dX2_wins_17 : decode cX2_wins 17 = .ok (.getfield 21, 3) := by decide +kernel
theorem dX2_wins_20 : decode cX2_wins 20 = .ok (.iload_n 3, 1) := by decide +kernel
theorem dX2_wins_21 : decode cX2_wins 21 = .ok (.iaload, 1) := by decide +kernel
theorem dX2_wins_22 : decode cX2_wins 22 = .ok (.iload_n 2, 1) := by decide +kernel
theorem dX2_wins_23 : decode cX2_wins 23 = .ok (.iand, 1) := by decide +kernel
theorem dX2_wins_24 : decode cX2_wins 24 = .ok (.ifCond .eq 7, 3) := by decide +kernel
theorem dX2_wins_27 : decode cX2_wins 27 = .ok (.iconst 1, 1) := by decide +kernel
theorem dX2_wins_28 : decode cX2_wins 28 = .ok (.goto 4, 3) := by decide +kernel
theorem dX2_wins_31 : decode cX2_wins 31 = .ok (.iconst 0, 1) := by decide +kernel
theorem dX2_wins_32 : decode cX2_wins 32 = .ok (.ireturn, 1) := by decide +kernel
set_option maxRecDepth 20000 in
theorem ggX2_winningMove_X3_find : GoodIn wsX2_winningMove wsX3_find := goodIn_r _ [8, 9, 10, 11, 12, 13, 14, 15, 16, 17, 18, 19, 20, 21, 7, 22, 23, 24, 25, 26, 27, 28, 29, 30, 31, 32, 33, 34, 35, 36, 37, 38, 91, 92, 85, 86, 87, 88, 89, 90] (by decide +kernel) (by decide +kernel)
set_option maxRecDepth 20000 in
theorem gX2_winningMove_X3_find : GoodIn wsX2_winningMove (wsV RX2 95 RX3 yX3_find wsX3_find) := goodIn_app (goodIn_of _ (by decide +kernel)) ggX2_winningMove_X3_find
set_option maxRecDepth 20000 in
theorem ggX2_winningMove_X9_kindAt : GoodIn wsX2_winningMove wsX9_kindAt := goodIn_r _ [18] (by decide +kernel) (by decide +kernel)
set_option maxRecDepth 20000 in
theorem gX2_winningMove_X9_kindAt_n86 : GoodIn wsX2_winningMove (wsX9_kindAt) := ggX2_winningMove_X9_kindAt
set_option maxRecDepth 20000 in
theorem ggX2_winningMove_X2_winningTarget : GoodIn wsX2_winningMove wsX2_winningTarget := goodIn_r _ [43, 2, 3, 1, 44, 45, 46, 7, 47, 48, 49, 50, 51, 9, 52, 17, 53, 54, 16, 18, 55, 56, 42, 57, 58, 59, 60, 61, 62, 63, 64, 65, 66, 67, 68, 69, 70, 71, 72, 73, 74, 75, 76, 77, 78, 79, 80, 81, 82, 83, 84, 85, 86, 87, 88, 89, 90, 91, 92, 93, 94, 95, 96, 97] (by decide +kernel) (by decide +kernel)
set_option maxRecDepth 20000 in
theorem gX2_winningMove_X2_winningTarget : GoodIn wsX2_winningMove (wsV RX2 126 RX2 yX2_winningTarget wsX2_winningTarget) := goodIn_app (goodIn_of _ (by decide +kernel)) ggX2_winningMove_X2_winningTarget
theorem dX2_winningMove_0 : decode cX2_winningMove 0 = .ok (.aload_n 0, 1) := by decide +kernel
theorem dX2_winningMove_1 : decode cX2_winningMove 1 = .ok (.getfield 28, 3) := by decide +kernel
theorem dX2_winningMove_4 : decode cX2_winningMove 4 = .ok (.iload_n 1, 1) := by decide +kernel
theorem dX2_winningMove_5 : decode cX2_winningMove 5 = .ok (.invokevirtual 95, 3) := by decide +kernel
theorem dX2_winningMove_8 : decode cX2_winningMove 8 = .ok (.iconst 0, 1) := by decide +kernel
theorem dX2_winningMove_9 : decode cX2_winningMove 9 = .ok (.istore_n 3, 1) := by decide +kernel
theorem dX2_winningMove_10 : decode cX2_winningMove 10 = .ok (.iload_n 3, 1) := by decide +kernel
theorem dX2_winningMove_11 : decode cX2_winningMove 11 = .ok (.aload_n 0, 1) := by decide +kernel
theorem dX2_winningMove_12 : decode cX2_winningMove 12 = .ok (.getfield 24, 3) := by decide +kernel
theorem dX2_winningMove_15 : decode cX2_winningMove 15 = .ok (.getfield 81, 3) := by decide +kernel
theorem dX2_winningMove_18 : decode cX2_winningMove 18 = .ok (.if_icmp .ge 41, 3) := by decide +kernel
theorem dX2_winningMove_21 : decode cX2_winningMove 21 = .ok (.iload_n 1, 1) := by decide +kernel
theorem dX2_winningMove_22 : decode cX2_winningMove 22 = .ok (.iload_n 3, 1) := by decide +kernel
theorem dX2_winningMove_23 : decode cX2_winningMove 23 = .ok (.invokestatic 86, 3) := by decide +kernel
theorem dX2_winningMove_26 : decode cX2_winningMove 26 = .ok (.iload_n 2, 1) := by decide +kernel
theorem dX2_winningMove_27 : decode cX2_winningMove 27 = .ok (.if_icmp .ne 26, 3) := by decide +kernel
theorem dX2_winningMove_30 : decode cX2_winningMove 30 = .ok (.aload_n 0, 1) := by decide +kernel
theorem dX2_winningMove_31 : decode cX2_winningMove 31 = .ok (.iload_n 1, 1) := by decide +kernel
theorem dX2_winningMove_32 : decode cX2_winningMove 32 = .ok (.iload_n 3, 1) := by decide +kernel
theorem dX2_winningMove_33 : decode cX2_winningMove 33 = .ok (.iload_n 2, 1) := by decide +kernel
theorem dX2_winningMove_34 : decode cX2_winningMove 34 = .ok (.invokevirtual 126, 3) := by decide +kernel
theorem dX2_winningMove_37 : decode cX2_winningMove 37 = .ok (.istore 4, 2) := by decide +kernel
theorem dX2_winningMove_39 : decode cX2_winningMove 39 = .ok (.iload 4, 2) := by decide +kernel
theorem dX2_winningMove_41 : decode cX2_winningMove 41 = .ok (.iconst (-1), 1) := by decide +kernel
theorem dX2_winningMove_42 : decode cX2_winningMove 42 = .ok (.if_icmp .eq 11, 3) := by decide +kernel
theorem dX2_winningMove_45 : decode cX2_winningMove 45 = .ok (.bipush 16, 2) := by decide +kernel
theorem dX2_winningMove_47 : decode cX2_winningMove 47 = .ok (.iload_n 3, 1) := by decide +kernel
theorem dX2_winningMove_48 : decode cX2_winningMove 48 = .ok (.imul, 1) := by decide +kernel
theorem dX2_winningMove_49 : decode cX2_winningMove 49 = .ok (.iload 4, 2) := by decide +kernel
theorem dX2_winningMove_51 : decode cX2_winningMove 51 = .ok (.iadd, 1) := by decide +kernel
theorem dX2_winningMove_52 : decode cX2_winningMove 52 = .ok (.ireturn, 1) := by decide +kernel
theorem dX2_winningMove_53 : decode cX2_winningMove 53 = .ok (.iinc 3 1, 3) := by decide +kernel
theorem dX2_winningMove_56 : decode cX2_winningMove 56 = .ok (.goto (-46), 3) := by decide +kernel
theorem dX2_winningMove_59 : decode cX2_winningMove 59 = .ok (.iconst (-1), 1) := by decide +kernel
theorem dX2_winningMove_60 : decode cX2_winningMove 60 = .ok (.ireturn, 1) := by decide +kernel
set_option maxRecDepth 20000 in
theorem ggX2_winningTarget_X3_has : GoodIn wsX2_winningTarget wsX3_has := goodIn_r _ [8, 9, 10, 11, 7, 12, 13, 57, 58] (by decide +kernel) (by decide +kernel)
set_option maxRecDepth 20000 in
theorem gX2_winningTarget_X3_has : GoodIn wsX2_winningTarget (wsV RX2 100 RX3 yX3_has wsX3_has) := goodIn_app (goodIn_of _ (by decide +kernel)) ggX2_winningTarget_X3_has
set_option maxRecDepth 20000 in
theorem ggX2_winningTarget_X9_afterMove : GoodIn wsX2_winningTarget wsX9_afterMove := goodIn_r _ [16, 17, 18, 15, 19] (by decide +kernel) (by decide +kernel)
set_option maxRecDepth 20000 in
theorem gX2_winningTarget_X9_afterMove_n104 : GoodIn wsX2_winningTarget (wsX9_afterMove) := ggX2_winningTarget_X9_afterMove
set_option maxRecDepth 20000 in
theorem ggX2_winningTarget_X2_otherColour : GoodIn wsX2_winningTarget wsX2_otherColour := goodIn_r _ [23] (by decide +kernel) (by decide +kernel)
set_option maxRecDepth 20000 in
theorem gX2_winningTarget_X2_otherColour : GoodIn wsX2_winningTarget (va_wsS RX2 111 yX2_otherColour wsX2_otherColour) := goodIn_app (goodIn_of _ (by decide +kernel)) ggX2_winningTarget_X2_otherColour
set_option maxRecDepth 20000 in
theorem ggX2_winningTarget_X2_wins : GoodIn wsX2_winningTarget wsX2_wins := goodIn_r _ [27, 28, 29, 30, 31, 32, 33, 34, 35, 36, 37, 38, 39, 40, 22, 41, 42, 43, 44, 45, 46, 47, 48, 49, 50, 59, 60, 61, 62, 63] (by decide +kernel) (by decide +kernel)
set_option maxRecDepth 20000 in
theorem gX2_winningTarget_X2_wins : GoodIn wsX2_winningTarget (wsV RX2 114 RX2 yX2_wins wsX2_wins) := goodIn_app (goodIn_of _ (by decide +kernel)) ggX2_winningTarget_X2_wins
theorem dX2_winningTarget_0 : decode cX2_winningTarget 0 = .ok (.iconst 0, 1) := by decide +kernel
theorem dX2_winningTarget_1 : decode cX2_winningTarget 1 = .ok (.istore 4, 2) := by decide +kernel
theorem dX2_winningTarget_3 : decode cX2_winningTarget 3 = .ok (.iload 4, 2) := by decide +kernel
theorem dX2_winningTarget_5 : decode cX2_winningTarget 5 = .ok (.aload_n 0, 1) := by decide +kernel
theorem dX2_winningTarget_6 : decode cX2_winningTarget 6 = .ok (.getfield 24, 3) := by decide +kernel
theorem dX2_winningTarget_9 : decode cX2_winningTarget 9 = .ok (.getfield 81, 3) := by decide +kernel
theorem dX2_winningTarget_12 : decode cX2_winningTarget 12 = .ok (.if_icmp .ge 43, 3) := by decide +kernel
theorem dX2_winningTarget_15 : decode cX2_winningTarget 15 = .ok (.aload_n 0, 1) := by decide +kernel
theorem dX2_winningTarget_16 : decode cX2_winningTarget 16 = .ok (.getfield 28, 3) := by decide +kernel
theorem dX2_winningTarget_19 : decode cX2_winningTarget 19 = .ok (.iload_n 2, 1) := by decide +kernel
theorem dX2_winningTarget_20 : decode cX2_winningTarget 20 = .ok (.iload 4, 2) := by decide +kernel
theorem dX2_winningTarget_22 : decode cX2_winningTarget 22 = .ok (.invokevirtual 100, 3) := by decide +kernel
theorem dX2_winningTarget_25 : decode cX2_winningTarget 25 = .ok (.ifCond .eq 24, 3) := by decide +kernel
theorem dX2_winningTarget_28 : decode cX2_winningTarget 28 = .ok (.aload_n 0, 1) := by decide +kernel
theorem dX2_winningTarget_29 : decode cX2_winningTarget 29 = .ok (.iload_n 1, 1) := by decide +kernel
theorem dX2_winningTarget_30 : decode cX2_winningTarget 30 = .ok (.iload_n 2, 1) := by decide +kernel
theorem dX2_winningTarget_31 : decode cX2_winningTarget 31 = .ok (.iload 4, 2) := by decide +kernel
theorem dX2_winningTarget_33 : decode cX2_winningTarget 33 = .ok (.invokestatic 104, 3) := by decide +kernel
theorem dX2_winningTarget_36 : decode cX2_winningTarget 36 = .ok (.iload_n 3, 1) := by decide +kernel
theorem dX2_winningTarget_37 : decode cX2_winningTarget 37 = .ok (.invokestatic 111, 3) := by decide +kernel
theorem dX2_winningTarget_40 : decode cX2_winningTarget 40 = .ok (.invokevirtual 114, 3) := by decide +kernel
theorem dX2_winningTarget_43 : decode cX2_winningTarget 43 = .ok (.ifCond .ne 6, 3) := by decide +kernel
theorem dX2_winningTarget_46 : decode cX2_winningTarget 46 = .ok (.iload 4, 2) := by decide +kernel
theorem dX2_winningTarget_48 : decode cX2_winningTarget 48 = .ok (.ireturn, 1) := by decide +kernel
theorem dX2_winningTarget_49 : decode cX2_winningTarget 49 = .ok (.iinc 4 1, 3) := by decide +kernel
theorem dX2_winningTarget_52 : decode cX2_winningTarget 52 = .ok (.goto (-49), 3) := by decide +kernel
theorem dX2_winningTarget_55 : decode cX2_winningTarget 55 = .ok (.iconst (-1), 1) := by decide +kernel
theorem dX2_winningTarget_56 : decode cX2_winningTarget 56 = .ok (.ireturn, 1) := by decide +kernel
theorem dX3_init_0 : decode cX3_init 0 = .ok (.aload_n 0, 1) := by decide +kernel
theorem dX3_init_1 : decode cX3_init 1 = .ok (.invokespecial 3, 3) := by decide +kernel
theorem dX3_init_4 : decode cX3_init 4 = .ok (.aload_n 0, 1) := by decide +kernel
theorem dX3_init_5 : decode cX3_init 5 = .ok (.bipush 9, 2) := by decide +kernel
theorem dX3_init_7 : decode cX3_init 7 = .ok (.newarray .int, 2) := by decide +kernel
theorem dX3_init_9 : decode cX3_init 9 = .ok (.putfield 9, 3) := by decide +kernel
theorem dX3_init_12 : decode cX3_init 12 = .ok (.aload_n 0, 1) := by decide +kernel
theorem dX3_init_13 : decode cX3_init 13 = .ok (.aload_n 1, 1) := by decide +kernel
theorem dX3_init_14 : decode cX3_init 14 = .ok (.putfield 15, 3) := by decide +kernel
theorem dX3_init_17 : decode cX3_init 17 = .ok (.return_, 1) := by decide +kernel
set_option maxRecDepth 20000 in
theorem ggX3_find_J7_fill_53178 : GoodIn wsX3_find wsJ7_fill_53178 := goodIn_r _ [7] (by decide +kernel) (by decide +kernel)
set_option maxRecDepth 20000 in
theorem gX3_find_J7_fill_53178 : GoodIn wsX3_find (va_wsS RX3 19 yJ7_fill_53178 wsJ7_fill_53178) := goodIn_app (goodIn_of _ (by decide +kernel)) ggX3_find_J7_fill_53178
set_option maxRecDepth 20000 in
theorem ggX3_find_X9_kindAt : GoodIn wsX3_find wsX9_kindAt := goodIn_r _ [10] (by decide +kernel) (by decide +kernel)
set_option maxRecDepth 20000 in
theorem gX3_find_X9_kindAt_n31 : GoodIn wsX3_find (wsX9_kindAt) := ggX3_find_X9_kindAt
set_option maxRecDepth 20000 in
theorem ggX3_find_X3_findOnTo : GoodIn wsX3_find wsX3_findOnTo := goodIn_r _ [15, 2, 16, 17, 1, 18, 19, 20, 21, 22, 23, 8, 9, 10, 24, 25, 32, 33, 34, 35, 36, 37, 38, 39] (by decide +kernel) (by decide +kernel)
set_option maxRecDepth 20000 in
theorem gX3_find_X3_findOnTo : GoodIn wsX3_find (wsV RX3 35 RX3 yX3_findOnTo wsX3_findOnTo) := goodIn_app (goodIn_of _ (by decide +kernel)) ggX3_find_X3_findOnTo
set_option maxRecDepth 20000 in
theorem ggX3_find_X9_goesBack : GoodIn wsX3_find wsX9_goesBack := goodIn_r _ [27] (by decide +kernel) (by decide +kernel)
set_option maxRecDepth 20000 in
theorem gX3_find_X9_goesBack_n39 : GoodIn wsX3_find (wsX9_goesBack) := ggX3_find_X9_goesBack
set_option maxRecDepth 20000 in
theorem ggX3_find_X3_findBackFrom : GoodIn wsX3_find wsX3_findBackFrom := goodIn_r _ [31, 2, 16, 1, 17, 18, 19, 20, 21, 22, 23, 8, 9, 10, 32, 33, 34, 35, 36, 37, 38, 39] (by decide +kernel) (by decide +kernel)
set_option maxRecDepth 20000 in
theorem gX3_find_X3_findBackFrom : GoodIn wsX3_find (wsV RX3 43 RX3 yX3_findBackFrom wsX3_findBackFrom) := goodIn_app (goodIn_of _ (by decide +kernel)) ggX3_find_X3_findBackFrom
theorem dX3_find_0 : decode cX3_find 0 = .ok (.aload_n 0, 1) := by decide +kernel
theorem dX3_find_1 : decode cX3_find 1 = .ok (.getfield 9, 3) := by decide +kernel
theorem dX3_find_4 : decode cX3_find 4 = .ok (.iconst 0, 1) := by decide +kernel
theorem dX3_find_5 : decode cX3_find 5 = .ok (.invokestatic 19, 3) := by decide +kernel
theorem dX3_find_8 : decode cX3_find 8 = .ok (.iconst 0, 1) := by decide +kernel
theorem dX3_find_9 : decode cX3_find 9 = .ok (.istore_n 2, 1) := by decide +kernel
theorem dX3_find_10 : decode cX3_find 10 = .ok (.iload_n 2, 1) := by decide +kernel
theorem dX3_find_11 : decode cX3_find 11 = .ok (.aload_n 0, 1) := by decide +kernel
theorem dX3_find_12 : decode cX3_find 12 = .ok (.getfield 15, 3) := by decide +kernel
theorem dX3_find_15 : decode cX3_find 15 = .ok (.getfield 25, 3) := by decide +kernel
theorem dX3_find_18 : decode cX3_find 18 = .ok (.if_icmp .ge 42, 3) := by decide +kernel
theorem dX3_find_21 : decode cX3_find 21 = .ok (.iload_n 1, 1) := by decide +kernel
theorem dX3_find_22 : decode cX3_find 22 = .ok (.iload_n 2, 1) := by decide +kernel
theorem dX3_find_23 : decode cX3_find 23 = .ok (.invokestatic 31, 3) := by decide +kernel
theorem dX3_find_26 : decode cX3_find 26 = .ok (.istore_n 3, 1) := by decide +kernel
theorem dX3_find_27 : decode cX3_find 27 = .ok (.iload_n 3, 1) := by decide +kernel
theorem dX3_find_28 : decode cX3_find 28 = .ok (.ifCond .ne 12, 3) := by decide +kernel
theorem dX3_find_31 : decode cX3_find 31 = .ok (.aload_n 0, 1) := by decide +kernel
theorem dX3_find_32 : decode cX3_find 32 = .ok (.iload_n 1, 1) := by decide +kernel
theorem dX3_find_33 : decode cX3_find 33 = .ok (.iload_n 2, 1) := by decide +kernel
theorem dX3_find_34 : decode cX3_find 34 = .ok (.invokevirtual 35, 3) := by decide +kernel
theorem dX3_find_37 : decode cX3_find 37 = .ok (.goto 17, 3) := by decide +kernel
theorem dX3_find_40 : decode cX3_find 40 = .ok (.iload_n 3, 1) := by decide +kernel
theorem dX3_find_41 : decode cX3_find 41 = .ok (.invokestatic 39, 3) := by decide +kernel
theorem dX3_find_44 : decode cX3_find 44 = .ok (.ifCond .eq 10, 3) := by decide +kernel
theorem dX3_find_47 : decode cX3_find 47 = .ok (.aload_n 0, 1) := by decide +kernel
theorem dX3_find_48 : decode cX3_find 48 = .ok (.iload_n 1, 1) := by decide +kernel
theorem dX3_find_49 : decode cX3_find 49 = .ok (.iload_n 2, 1) := by decide +kernel
theorem dX3_find_50 : decode cX3_find 50 = .ok (.iload_n 3, 1) := by decide +kernel
theorem dX3_find_51 : decode cX3_find 51 = .ok (.invokevirtual 43, 3) := by decide +kernel
theorem dX3_find_54 : decode cX3_find 54 = .ok (.iinc 2 1, 3) := by decide +kernel
theorem dX3_find_57 : decode cX3_find 57 = .ok (.goto (-47), 3) := by decide +kernel
theorem dX3_find_60 : decode cX3_find 60 = .ok (.return_, 1) := by decide +kernel
set_option maxRecDepth 20000 in
theorem ggX3_findOnTo_X6_behind : GoodIn wsX3_findOnTo wsX6_behind := goodIn_r _ [9, 10, 18, 19, 20, 21, 22, 23] (by decide +kernel) (by decide +kernel)
set_option maxRecDepth 20000 in
theorem gX3_findOnTo_X6_behind : GoodIn wsX3_findOnTo (wsV RX3 50 RX6 yX6_behind wsX6_behind) := goodIn_app (goodIn_of _ (by decide +kernel)) ggX3_findOnTo_X6_behind
set_option maxRecDepth 20000 in
theorem ggX3_findOnTo_X9_kindAt : GoodIn wsX3_findOnTo wsX9_kindAt := goodIn_r _ [13] (by decide +kernel) (by decide +kernel)
set_option maxRecDepth 20000 in
theorem gX3_findOnTo_X9_kindAt_n31 : GoodIn wsX3_findOnTo (wsX9_kindAt) := ggX3_findOnTo_X9_kindAt
set_option maxRecDepth 20000 in
theorem ggX3_findOnTo_X9_goesOn : GoodIn wsX3_findOnTo wsX9_goesOn := goodIn_r _ [15] (by decide +kernel) (by decide +kernel)
set_option maxRecDepth 20000 in
theorem gX3_findOnTo_X9_goesOn_n54 : GoodIn wsX3_findOnTo (wsX9_goesOn) := ggX3_findOnTo_X9_goesOn
theorem dX3_findOnTo_0 : decode cX3_findOnTo 0 = .ok (.iload_n 2, 1) := by decide +kernel
theorem dX3_findOnTo_1 : decode cX3_findOnTo 1 = .ok (.istore_n 3, 1) := by decide +kernel
theorem dX3_findOnTo_2 : decode cX3_findOnTo 2 = .ok (.iconst 0, 1) := by decide +kernel
theorem dX3_findOnTo_3 : decode cX3_findOnTo 3 = .ok (.istore 4, 2) := by decide +kernel
theorem dX3_findOnTo_5 : decode cX3_findOnTo 5 = .ok (.iconst 1, 1) := by decide +kernel
theorem dX3_findOnTo_6 : decode cX3_findOnTo 6 = .ok (.istore 5, 2) := by decide +kernel
theorem dX3_findOnTo_8 : decode cX3_findOnTo 8 = .ok (.iload 5, 2) := by decide +kernel
theorem dX3_findOnTo_10 : decode cX3_findOnTo 10 = .ok (.aload_n 0, 1) := by decide +kernel
theorem dX3_findOnTo_11 : decode cX3_findOnTo 11 = .ok (.getfield 15, 3) := by decide +kernel
theorem dX3_findOnTo_14 : decode cX3_findOnTo 14 = .ok (.getfield 47, 3) := by decide +kernel
theorem dX3_findOnTo_17 : decode cX3_findOnTo 17 = .ok (.if_icmp .gt 103, 3) := by decide +kernel
theorem dX3_findOnTo_20 : decode cX3_findOnTo 20 = .ok (.aload_n 0, 1) := by decide +kernel
theorem dX3_findOnTo_21 : decode cX3_findOnTo 21 = .ok (.getfield 15, 3) := by decide +kernel
theorem dX3_findOnTo_24 : decode cX3_findOnTo 24 = .ok (.iload_n 3, 1) := by decide +kernel
theorem dX3_findOnTo_25 : decode cX3_findOnTo 25 = .ok (.invokevirtual 50, 3) := by decide +kernel
theorem dX3_findOnTo_28 : decode cX3_findOnTo 28 = .ok (.istore_n 3, 1) := by decide +kernel
theorem dX3_findOnTo_29 : decode cX3_findOnTo 29 = .ok (.iload_n 3, 1) := by decide +kernel
theorem dX3_findOnTo_30 : decode cX3_findOnTo 30 = .ok (.ifCond .lt 9, 3) := by decide +kernel
theorem dX3_findOnTo_33 : decode cX3_findOnTo 33 = .ok (.iload_n 3, 1) := by decide +kernel
theorem dX3_findOnTo_34 : decode cX3_findOnTo 34 = .ok (.bipush 9, 2) := by decide +kernel
theorem dX3_findOnTo_36 : decode cX3_findOnTo 36 = .ok (.if_icmp .lt 4, 3) := by decide +kernel
theorem dX3_findOnTo_39 : decode cX3_findOnTo 39 = .ok (.return_, 1) := by decide +kernel
theorem dX3_findOnTo_40 : decode cX3_findOnTo 40 = .ok (.iload_n 1, 1) := by decide +kernel
theorem dX3_findOnTo_41 : decode cX3_findOnTo 41 = .ok (.iload_n 3, 1) := by decide +kernel
theorem dX3_findOnTo_42 : decode cX3_findOnTo 42 = .ok (.invokestatic 31, 3) := by decide +kernel
theorem dX3_findOnTo_45 : decode cX3_findOnTo 45 = .ok (.istore 6, 2) := by decide +kernel
theorem dX3_findOnTo_47 : decode cX3_findOnTo 47 = .ok (.iload 6, 2) := by decide +kernel
theorem dX3_findOnTo_49 : decode cX3_findOnTo 49 = .ok (.ifCond .ne 4, 3) := by decide +kernel
theorem dX3_findOnTo_52 : decode cX3_findOnTo 52 = .ok (.return_, 1) := by decide +kernel
theorem dX3_findOnTo_53 : decode cX3_findOnTo 53 = .ok (.iload 4, 2) := by decide +kernel
theorem dX3_findOnTo_55 : decode cX3_findOnTo 55 = .ok (.iload 6, 2) := by decide +kernel
theorem dX3_findOnTo_57 : decode cX3_findOnTo 57 = .ok (.ishr, 1) := by decide +kernel
theorem dX3_findOnTo_58 : decode cX3_findOnTo 58 = .ok (.iconst 1, 1) := by decide +kernel
theorem dX3_findOnTo_59 : decode cX3_findOnTo 59 = .ok (.iand, 1) := by decide +kernel
theorem dX3_findOnTo_60 : decode cX3_findOnTo 60 = .ok (.ifCond .eq 7, 3) := by decide +kernel
theorem dX3_findOnTo_63 : decode cX3_findOnTo 63 = .ok (.iconst 1, 1) := by decide +kernel
theorem dX3_findOnTo_64 : decode cX3_findOnTo 64 = .ok (.goto 4, 3) := by decide +kernel
theorem dX3_findOnTo_67 : decode cX3_findOnTo 67 = .ok (.iconst 0, 1) := by decide +kernel
theorem dX3_findOnTo_68 : decode cX3_findOnTo 68 = .ok (.istore 7, 2) := by decide +kernel
theorem dX3_findOnTo_70 : decode cX3_findOnTo 70 = .ok (.iload 6, 2) := by decide +kernel
theorem dX3_findOnTo_72 : decode cX3_findOnTo 72 = .ok (.invokestatic 54, 3) := by decide +kernel
theorem dX3_findOnTo_75 : decode cX3_findOnTo 75 = .ok (.ifCond .eq 30, 3) := by decide +kernel
theorem dX3_findOnTo_78 : decode cX3_findOnTo 78 = .ok (.aload_n 0, 1) := by decide +kernel
theorem dX3_findOnTo_79 : decode cX3_findOnTo 79 = .ok (.getfield 15, 3) := by decide +kernel
theorem dX3_findOnTo_82 : decode cX3_findOnTo 82 = .ok (.getfield 57, 3) := by decide +kernel
theorem dX3_findOnTo_85 : decode cX3_findOnTo 85 = .ok (.ifCond .eq 8, 3) := by decide +kernel
theorem dX3_findOnTo_88 : decode cX3_findOnTo 88 = .ok (.iload 7, 2) := by decide +kernel
theorem dX3_findOnTo_90 : decode cX3_findOnTo 90 = .ok (.ifCond .ne 15, 3) := by decide +kernel
theorem dX3_findOnTo_93 : decode cX3_findOnTo 93 = .ok (.aload_n 0, 1) := by decide +kernel
theorem dX3_findOnTo_94 : decode cX3_findOnTo 94 = .ok (.getfield 9, 3) := by decide +kernel
theorem dX3_findOnTo_97 : decode cX3_findOnTo 97 = .ok (.iload_n 3, 1) := by decide +kernel
theorem dX3_findOnTo_98 : decode cX3_findOnTo 98 = .ok (.dup2, 1) := by decide +kernel
theorem dX3_findOnTo_99 : decode cX3_findOnTo 99 = .ok (.iaload, 1) := by decide +kernel
theorem dX3_findOnTo_100 : decode cX3_findOnTo 100 = .ok (.iconst 1, 1) := by decide +kernel
theorem dX3_findOnTo_101 : decode cX3_findOnTo 101 = .ok (.iload_n 2, 1) := by decide +kernel
theorem dX3_findOnTo_102 : decode cX3_findOnTo 102 = .ok (.ishl, 1) := by decide +kernel
theorem dX3_findOnTo_103 : decode cX3_findOnTo 103 = .ok (.ior, 1) := by decide +kernel
theorem dX3_findOnTo_104 : decode cX3_findOnTo 104 = .ok (.iastore, 1) := by decide +kernel
theorem dX3_findOnTo_105 : decode cX3_findOnTo 105 = .ok (.iload 4, 2) := by decide +kernel
theorem dX3_findOnTo_107 : decode cX3_findOnTo 107 = .ok (.iconst 1, 1) := by decide +kernel
theorem dX3_findOnTo_108 : decode cX3_findOnTo 108 = .ok (.iload 6, 2) := by decide +kernel
theorem dX3_findOnTo_110 : decode cX3_findOnTo 110 = .ok (.ishl, 1) := by decide +kernel
theorem dX3_findOnTo_111 : decode cX3_findOnTo 111 = .ok (.ior, 1) := by decide +kernel
theorem dX3_findOnTo_112 : decode cX3_findOnTo 112 = .ok (.istore 4, 2) := by decide +kernel
theorem dX3_findOnTo_114 : decode cX3_findOnTo 114 = .ok (.iinc 5 1, 3) := by decide +kernel
theorem dX3_findOnTo_117 : decode cX3_findOnTo 117 = .ok (.goto (-109), 3) := by decide +kernel
theorem dX3_findOnTo_120 : decode cX3_findOnTo 120 = .ok (.return_, 1) := by decide +kernel
set_option maxRecDepth 20000 in
theorem ggX3_findBackFrom_X6_behind : GoodIn wsX3_findBackFrom wsX6_behind := goodIn_r _ [9, 10, 16, 17, 18, 19, 20, 21] (by decide +kernel) (by decide +kernel)
set_option maxRecDepth 20000 in
theorem gX3_findBackFrom_X6_behind : GoodIn wsX3_findBackFrom (wsV RX3 50 RX6 yX6_behind wsX6_behind) := goodIn_app (goodIn_of _ (by decide +kernel)) ggX3_findBackFrom_X6_behind
set_option maxRecDepth 20000 in
theorem ggX3_findBackFrom_X9_kindAt : GoodIn wsX3_findBackFrom wsX9_kindAt := goodIn_r _ [13] (by decide +kernel) (by decide +kernel)
set_option maxRecDepth 20000 in
theorem gX3_findBackFrom_X9_kindAt_n31 : GoodIn wsX3_findBackFrom (wsX9_kindAt) := ggX3_findBackFrom_X9_kindAt
theorem dX3_findBackFrom_0 : decode cX3_findBackFrom 0 = .ok (.iload_n 2, 1) := by decide +kernel
theorem dX3_findBackFrom_1 : decode cX3_findBackFrom 1 = .ok (.istore 4, 2) := by decide +kernel
theorem dX3_findBackFrom_3 : decode cX3_findBackFrom 3 = .ok (.iconst 1, 1) := by decide +kernel
theorem dX3_findBackFrom_4 : decode cX3_findBackFrom 4 = .ok (.istore 5, 2) := by decide +kernel
theorem dX3_findBackFrom_6 : decode cX3_findBackFrom 6 = .ok (.iload 5, 2) := by decide +kernel
theorem dX3_findBackFrom_8 : decode cX3_findBackFrom 8 = .ok (.aload_n 0, 1) := by decide +kernel
theorem dX3_findBackFrom_9 : decode cX3_findBackFrom 9 = .ok (.getfield 15, 3) := by decide +kernel
theorem dX3_findBackFrom_12 : decode cX3_findBackFrom 12 = .ok (.getfield 47, 3) := by decide +kernel
theorem dX3_findBackFrom_15 : decode cX3_findBackFrom 15 = .ok (.if_icmp .gt 70, 3) := by decide +kernel
theorem dX3_findBackFrom_18 : decode cX3_findBackFrom 18 = .ok (.aload_n 0, 1) := by decide +kernel
theorem dX3_findBackFrom_19 : decode cX3_findBackFrom 19 = .ok (.getfield 15, 3) := by decide +kernel
theorem dX3_findBackFrom_22 : decode cX3_findBackFrom 22 = .ok (.iload 4, 2) := by decide +kernel
theorem dX3_findBackFrom_24 : decode cX3_findBackFrom 24 = .ok (.invokevirtual 50, 3) := by decide +kernel
theorem dX3_findBackFrom_27 : decode cX3_findBackFrom 27 = .ok (.istore 4, 2) := by decide +kernel
theorem dX3_findBackFrom_29 : decode cX3_findBackFrom 29 = .ok (.iload 4, 2) := by decide +kernel
theorem dX3_findBackFrom_31 : decode cX3_findBackFrom 31 = .ok (.ifCond .ge 4, 3) := by decide +kernel
theorem dX3_findBackFrom_34 : decode cX3_findBackFrom 34 = .ok (.return_, 1) := by decide +kernel
theorem dX3_findBackFrom_35 : decode cX3_findBackFrom 35 = .ok (.iload_n 1, 1) := by decide +kernel
theorem dX3_findBackFrom_36 : decode cX3_findBackFrom 36 = .ok (.iload 4, 2) := by decide +kernel
theorem dX3_findBackFrom_38 : decode cX3_findBackFrom 38 = .ok (.invokestatic 31, 3) := by decide +kernel
theorem dX3_findBackFrom_41 : decode cX3_findBackFrom 41 = .ok (.istore 6, 2) := by decide +kernel
theorem dX3_findBackFrom_43 : decode cX3_findBackFrom 43 = .ok (.iload 6, 2) := by decide +kernel
theorem dX3_findBackFrom_45 : decode cX3_findBackFrom 45 = .ok (.ifCond .ne 17, 3) := by decide +kernel
theorem dX3_findBackFrom_48 : decode cX3_findBackFrom 48 = .ok (.aload_n 0, 1) := by decide +kernel
theorem dX3_findBackFrom_49 : decode cX3_findBackFrom 49 = .ok (.getfield 9, 3) := by decide +kernel
theorem dX3_findBackFrom_52 : decode cX3_findBackFrom 52 = .ok (.iload_n 2, 1) := by decide +kernel
theorem dX3_findBackFrom_53 : decode cX3_findBackFrom 53 = .ok (.dup2, 1) := by decide +kernel
theorem dX3_findBackFrom_54 : decode cX3_findBackFrom 54 = .ok (.iaload, 1) := by decide +kernel
theorem dX3_findBackFrom_55 : decode cX3_findBackFrom 55 = .ok (.iconst 1, 1) := by decide +kernel
theorem dX3_findBackFrom_56 : decode cX3_findBackFrom 56 = .ok (.iload 4, 2) := by decide +kernel
theorem dX3_findBackFrom_58 : decode cX3_findBackFrom 58 = .ok (.ishl, 1) := by decide +kernel
theorem dX3_findBackFrom_59 : decode cX3_findBackFrom 59 = .ok (.ior, 1) := by decide +kernel
theorem dX3_findBackFrom_60 : decode cX3_findBackFrom 60 = .ok (.iastore, 1) := by decide +kernel
theorem dX3_findBackFrom_61 : decode cX3_findBackFrom 61 = .ok (.return_, 1) := by decide +kernel
theorem dX3_findBackFrom_62 : decode cX3_findBackFrom 62 = .ok (.aload_n 0, 1) := by decide +kernel
theorem dX3_findBackFrom_63 : decode cX3_findBackFrom 63 = .ok (.getfield 15, 3) := by decide +kernel
theorem dX3_findBackFrom_66 : decode cX3_findBackFrom 66 = .ok (.getfield 57, 3) := by decide +kernel
theorem dX3_findBackFrom_69 : decode cX3_findBackFrom 69 = .ok (.ifCond .eq 10, 3) := by decide +kernel
theorem dX3_findBackFrom_72 : decode cX3_findBackFrom 72 = .ok (.iload 6, 2) := by decide +kernel
theorem dX3_findBackFrom_74 : decode cX3_findBackFrom 74 = .ok (.iload_n 3, 1) := by decide +kernel
theorem dX3_findBackFrom_75 : decode cX3_findBackFrom 75 = .ok (.if_icmp .ne 4, 3) := by decide +kernel
theorem dX3_findBackFrom_78 : decode cX3_findBackFrom 78 = .ok (.return_, 1) := by decide +kernel
theorem dX3_findBackFrom_79 : decode cX3_findBackFrom 79 = .ok (.iinc 5 1, 3) := by decide +kernel
theorem dX3_findBackFrom_82 : decode cX3_findBackFrom 82 = .ok (.goto (-76), 3) := by decide +kernel
theorem dX3_findBackFrom_85 : decode cX3_findBackFrom 85 = .ok (.return_, 1) := by decide +kernel
theorem dX3_targetsOf_0 : decode cX3_targetsOf 0 = .ok (.iload_n 1, 1) := by decide +kernel
theorem dX3_targetsOf_1 : decode cX3_targetsOf 1 = .ok (.ifCond .lt 18, 3) := by decide +kernel
theorem dX3_targetsOf_4 : decode cX3_targetsOf 4 = .ok (.iload_n 1, 1) := by decide +kernel
theorem dX3_targetsOf_5 : decode cX3_targetsOf 5 = .ok (.bipush 9, 2) := by decide +kernel
theorem dX3_targetsOf_7 : decode cX3_targetsOf 7 = .ok (.if_icmp .ge 12, 3) := by decide +kernel
theorem dX3_targetsOf_10 : decode cX3_targetsOf 10 = .ok (.aload_n 0, 1) := by decide +kernel
theorem dX3_targetsOf_11 : decode cX3_targetsOf 11 = .ok (.getfield 9, 3) := by decide +kernel
theorem dX3_targetsOf_14 : decode cX3_targetsOf 14 = .ok (.iload_n 1, 1) := by decide +kernel
theorem dX3_targetsOf_15 : decode cX3_targetsOf 15 = .ok (.iaload, 1) := by decide +kernel
theorem dX3_targetsOf_16 : decode cX3_targetsOf 16 = .ok (.goto 4, 3) := by decide +kernel
theorem dX3_targetsOf_19 : decode cX3_targetsOf 19 = .ok (.iconst 0, 1) := by decide +kernel
theorem dX3_targetsOf_20 : decode cX3_targetsOf 20 = .ok (.ireturn, 1) := by decide +kernel
set_option maxRecDepth 20000 in
theorem ggX3_has_X3_targetsOf : GoodIn wsX3_has wsX3_targetsOf := goodIn_r _ [5, 6, 7, 8] (by decide +kernel) (by decide +kernel)
set_option maxRecDepth 20000 in
theorem gX3_has_X3_targetsOf : GoodIn wsX3_has (wsV RX3 61 RX3 yX3_targetsOf wsX3_targetsOf) := goodIn_app (goodIn_of _ (by decide +kernel)) ggX3_has_X3_targetsOf
