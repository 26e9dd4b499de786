theorem dX3_has_0 : decode cX3_has 0 = .ok (.aload_n 0, 1) := by decide +kernel
theorem dX3_has_1 : decode cX3_has 1 = .ok (.iload_n 1, 1) := by decide +kernel
theorem dX3_has_2 : decode cX3_has 2 = .ok (.invokevirtual 61, 3) := by decide +kernel
theorem dX3_has_5 : decode cX3_has 5 = .ok (.iload_n 2, 1) := by decide +kernel
theorem dX3_has_6 : decode cX3_has 6 = .ok (.ishr, 1) := by decide +kernel
theorem dX3_has_7 : decode cX3_has 7 = .ok (.iconst 1, 1) := by decide +kernel
theorem dX3_has_8 : decode cX3_has 8 = .ok (.iand, 1) := by decide +kernel
theorem dX3_has_9 : decode cX3_has 9 = .ok (.ifCond .eq 7, 3) := by decide +kernel
theorem dX3_has_12 : decode cX3_has 12 = .ok (.iconst 1, 1) := by decide +kernel
theorem dX3_has_13 : decode cX3_has 13 = .ok (.goto 4, 3) := by decide +kernel
theorem dX3_has_16 : decode cX3_has 16 = .ok (.iconst 0, 1) := by decide +kernel
theorem dX3_has_17 : decode cX3_has 17 = .ok (.ireturn, 1) := by decide +kernel
set_option maxRecDepth 20000 in
theorem ggX3_total_J6_bitCount_0f7a4 : GoodIn wsX3_total wsJ6_bitCount_0f7a4 := goodIn_r _ [5, 6, 7, 8] (by decide +kernel) (by decide +kernel)
set_option maxRecDepth 20000 in
theorem gX3_total_J6_bitCount_0f7a4 : GoodIn wsX3_total (va_wsS RX3 64 yJ6_bitCount_0f7a4 wsJ6_bitCount_0f7a4) := goodIn_app (goodIn_of _ (by decide +kernel)) ggX3_total_J6_bitCount_0f7a4
theorem dX3_total_0 : decode cX3_total 0 = .ok (.iconst 0, 1) := by decide +kernel
theorem dX3_total_1 : decode cX3_total 1 = .ok (.istore_n 1, 1) := by decide +kernel
theorem dX3_total_2 : decode cX3_total 2 = .ok (.iconst 0, 1) := by decide +kernel
theorem dX3_total_3 : decode cX3_total 3 = .ok (.istore_n 2, 1) := by decide +kernel
theorem dX3_total_4 : decode cX3_total 4 = .ok (.iload_n 2, 1) := by decide +kernel
theorem dX3_total_5 : decode cX3_total 5 = .ok (.bipush 9, 2) := by decide +kernel
theorem dX3_total_7 : decode cX3_total 7 = .ok (.if_icmp .ge 21, 3) := by decide +kernel
theorem dX3_total_10 : decode cX3_total 10 = .ok (.iload_n 1, 1) := by decide +kernel
theorem dX3_total_11 : decode cX3_total 11 = .ok (.aload_n 0, 1) := by decide +kernel
theorem dX3_total_12 : decode cX3_total 12 = .ok (.getfield 9, 3) := by decide +kernel
theorem dX3_total_15 : decode cX3_total 15 = .ok (.iload_n 2, 1) := by decide +kernel
theorem dX3_total_16 : decode cX3_total 16 = .ok (.iaload, 1) := by decide +kernel
theorem dX3_total_17 : decode cX3_total 17 = .ok (.invokestatic 64, 3) := by decide +kernel
theorem dX3_total_20 : decode cX3_total 20 = .ok (.iadd, 1) := by decide +kernel
theorem dX3_total_21 : decode cX3_total 21 = .ok (.istore_n 1, 1) := by decide +kernel
theorem dX3_total_22 : decode cX3_total 22 = .ok (.iinc 2 1, 3) := by decide +kernel
theorem dX3_total_25 : decode cX3_total 25 = .ok (.goto (-21), 3) := by decide +kernel
theorem dX3_total_28 : decode cX3_total 28 = .ok (.iload_n 1, 1) := by decide +kernel
theorem dX3_total_29 : decode cX3_total 29 = .ok (.ireturn, 1) := by decide +kernel
set_option maxRecDepth 20000 in
theorem ggX3_told_X3_has : GoodIn wsX3_told wsX3_has := goodIn_r _ [7, 8, 9, 10, 6, 11, 12, 13, 14] (by decide +kernel) (by decide +kernel)
set_option maxRecDepth 20000 in
theorem gX3_told_X3_has : GoodIn wsX3_told (wsV RX3 69 RX3 yX3_has wsX3_has) := goodIn_app (goodIn_of _ (by decide +kernel)) ggX3_told_X3_has
theorem dX3_told_0 : decode cX3_told 0 = .ok (.iconst 0, 1) := by decide +kernel
theorem dX3_told_1 : decode cX3_told 1 = .ok (.istore_n 2, 1) := by decide +kernel
theorem dX3_told_2 : decode cX3_told 2 = .ok (.iconst 0, 1) := by decide +kernel
theorem dX3_told_3 : decode cX3_told 3 = .ok (.istore_n 3, 1) := by decide +kernel
theorem dX3_told_4 : decode cX3_told 4 = .ok (.iload_n 3, 1) := by decide +kernel
theorem dX3_told_5 : decode cX3_told 5 = .ok (.aload_n 0, 1) := by decide +kernel
theorem dX3_told_6 : decode cX3_told 6 = .ok (.getfield 15, 3) := by decide +kernel
theorem dX3_told_9 : decode cX3_told 9 = .ok (.getfield 25, 3) := by decide +kernel
theorem dX3_told_12 : decode cX3_told 12 = .ok (.if_icmp .ge 56, 3) := by decide +kernel
theorem dX3_told_15 : decode cX3_told 15 = .ok (.iconst 0, 1) := by decide +kernel
theorem dX3_told_16 : decode cX3_told 16 = .ok (.istore 4, 2) := by decide +kernel
theorem dX3_told_18 : decode cX3_told 18 = .ok (.iload 4, 2) := by decide +kernel
theorem dX3_told_20 : decode cX3_told 20 = .ok (.aload_n 0, 1) := by decide +kernel
theorem dX3_told_21 : decode cX3_told 21 = .ok (.getfield 15, 3) := by decide +kernel
theorem dX3_told_24 : decode cX3_told 24 = .ok (.getfield 25, 3) := by decide +kernel
theorem dX3_told_27 : decode cX3_told 27 = .ok (.if_icmp .ge 35, 3) := by decide +kernel
theorem dX3_told_30 : decode cX3_told 30 = .ok (.aload_n 0, 1) := by decide +kernel
theorem dX3_told_31 : decode cX3_told 31 = .ok (.iload_n 3, 1) := by decide +kernel
theorem dX3_told_32 : decode cX3_told 32 = .ok (.iload 4, 2) := by decide +kernel
theorem dX3_told_34 : decode cX3_told 34 = .ok (.invokevirtual 69, 3) := by decide +kernel
theorem dX3_told_37 : decode cX3_told 37 = .ok (.ifCond .eq 19, 3) := by decide +kernel
theorem dX3_told_40 : decode cX3_told 40 = .ok (.iload_n 2, 1) := by decide +kernel
theorem dX3_told_41 : decode cX3_told 41 = .ok (.iload_n 1, 1) := by decide +kernel
theorem dX3_told_42 : decode cX3_told 42 = .ok (.if_icmp .ne 11, 3) := by decide +kernel
theorem dX3_told_45 : decode cX3_told 45 = .ok (.bipush 16, 2) := by decide +kernel
theorem dX3_told_47 : decode cX3_told 47 = .ok (.iload_n 3, 1) := by decide +kernel
theorem dX3_told_48 : decode cX3_told 48 = .ok (.imul, 1) := by decide +kernel
theorem dX3_told_49 : decode cX3_told 49 = .ok (.iload 4, 2) := by decide +kernel
theorem dX3_told_51 : decode cX3_told 51 = .ok (.iadd, 1) := by decide +kernel
theorem dX3_told_52 : decode cX3_told 52 = .ok (.ireturn, 1) := by decide +kernel
theorem dX3_told_53 : decode cX3_told 53 = .ok (.iinc 2 1, 3) := by decide +kernel
theorem dX3_told_56 : decode cX3_told 56 = .ok (.iinc 4 1, 3) := by decide +kernel
theorem dX3_told_59 : decode cX3_told 59 = .ok (.goto (-41), 3) := by decide +kernel
theorem dX3_told_62 : decode cX3_told 62 = .ok (.iinc 3 1, 3) := by decide +kernel
theorem dX3_told_65 : decode cX3_told 65 = .ok (.goto (-61), 3) := by decide +kernel
theorem dX3_told_68 : decode cX3_told 68 = .ok (.iconst (-1), 1) := by decide +kernel
theorem dX3_told_69 : decode cX3_told 69 = .ok (.ireturn, 1) := by decide +kernel
set_option maxRecDepth 20000 in
theorem ggX3_afterLeastOf_X3_has : GoodIn wsX3_afterLeastOf wsX3_has := goodIn_r _ [7, 8, 9, 10, 6, 11, 12, 19, 20] (by decide +kernel) (by decide +kernel)
set_option maxRecDepth 20000 in
theorem gX3_afterLeastOf_X3_has : GoodIn wsX3_afterLeastOf (wsV RX3 69 RX3 yX3_has wsX3_has) := goodIn_app (goodIn_of _ (by decide +kernel)) ggX3_afterLeastOf_X3_has
set_option maxRecDepth 20000 in
theorem ggX3_afterLeastOf_X9_afterMove : GoodIn wsX3_afterLeastOf wsX9_afterMove := goodIn_r _ [15, 16, 17, 14, 18] (by decide +kernel) (by decide +kernel)
set_option maxRecDepth 20000 in
theorem gX3_afterLeastOf_X9_afterMove_n73 : GoodIn wsX3_afterLeastOf (wsX9_afterMove) := ggX3_afterLeastOf_X9_afterMove
theorem dX3_afterLeastOf_0 : decode cX3_afterLeastOf 0 = .ok (.iconst 0, 1) := by decide +kernel
theorem dX3_afterLeastOf_1 : decode cX3_afterLeastOf 1 = .ok (.istore_n 3, 1) := by decide +kernel
theorem dX3_afterLeastOf_2 : decode cX3_afterLeastOf 2 = .ok (.iload_n 3, 1) := by decide +kernel
theorem dX3_afterLeastOf_3 : decode cX3_afterLeastOf 3 = .ok (.aload_n 0, 1) := by decide +kernel
theorem dX3_afterLeastOf_4 : decode cX3_afterLeastOf 4 = .ok (.getfield 15, 3) := by decide +kernel
theorem dX3_afterLeastOf_7 : decode cX3_afterLeastOf 7 = .ok (.getfield 25, 3) := by decide +kernel
theorem dX3_afterLeastOf_10 : decode cX3_afterLeastOf 10 = .ok (.if_icmp .ge 25, 3) := by decide +kernel
theorem dX3_afterLeastOf_13 : decode cX3_afterLeastOf 13 = .ok (.aload_n 0, 1) := by decide +kernel
theorem dX3_afterLeastOf_14 : decode cX3_afterLeastOf 14 = .ok (.iload_n 2, 1) := by decide +kernel
theorem dX3_afterLeastOf_15 : decode cX3_afterLeastOf 15 = .ok (.iload_n 3, 1) := by decide +kernel
theorem dX3_afterLeastOf_16 : decode cX3_afterLeastOf 16 = .ok (.invokevirtual 69, 3) := by decide +kernel
theorem dX3_afterLeastOf_19 : decode cX3_afterLeastOf 19 = .ok (.ifCond .eq 10, 3) := by decide +kernel
theorem dX3_afterLeastOf_22 : decode cX3_afterLeastOf 22 = .ok (.iload_n 1, 1) := by decide +kernel
theorem dX3_afterLeastOf_23 : decode cX3_afterLeastOf 23 = .ok (.iload_n 2, 1) := by decide +kernel
theorem dX3_afterLeastOf_24 : decode cX3_afterLeastOf 24 = .ok (.iload_n 3, 1) := by decide +kernel
theorem dX3_afterLeastOf_25 : decode cX3_afterLeastOf 25 = .ok (.invokestatic 73, 3) := by decide +kernel
theorem dX3_afterLeastOf_28 : decode cX3_afterLeastOf 28 = .ok (.ireturn, 1) := by decide +kernel
theorem dX3_afterLeastOf_29 : decode cX3_afterLeastOf 29 = .ok (.iinc 3 1, 3) := by decide +kernel
theorem dX3_afterLeastOf_32 : decode cX3_afterLeastOf 32 = .ok (.goto (-30), 3) := by decide +kernel
theorem dX3_afterLeastOf_35 : decode cX3_afterLeastOf 35 = .ok (.iload_n 1, 1) := by decide +kernel
theorem dX3_afterLeastOf_36 : decode cX3_afterLeastOf 36 = .ok (.ireturn, 1) := by decide +kernel
theorem dX4_init_0 : decode cX4_init 0 = .ok (.aload_n 0, 1) := by decide +kernel
theorem dX4_init_1 : decode cX4_init 1 = .ok (.invokespecial 3, 3) := by decide +kernel
theorem dX4_init_4 : decode cX4_init 4 = .ok (.aload_n 0, 1) := by decide +kernel
theorem dX4_init_5 : decode cX4_init 5 = .ok (.sipush 1024, 3) := by decide +kernel
theorem dX4_init_8 : decode cX4_init 8 = .ok (.newarray .int, 2) := by decide +kernel
theorem dX4_init_10 : decode cX4_init 10 = .ok (.putfield 11, 3) := by decide +kernel
theorem dX4_init_13 : decode cX4_init 13 = .ok (.aload_n 0, 1) := by decide +kernel
theorem dX4_init_14 : decode cX4_init 14 = .ok (.sipush 256, 3) := by decide +kernel
theorem dX4_init_17 : decode cX4_init 17 = .ok (.newarray .int, 2) := by decide +kernel
theorem dX4_init_19 : decode cX4_init 19 = .ok (.putfield 15, 3) := by decide +kernel
theorem dX4_init_22 : decode cX4_init 22 = .ok (.aload_n 0, 1) := by decide +kernel
theorem dX4_init_23 : decode cX4_init 23 = .ok (.bipush 125, 2) := by decide +kernel
theorem dX4_init_25 : decode cX4_init 25 = .ok (.newarray .int, 2) := by decide +kernel
theorem dX4_init_27 : decode cX4_init 27 = .ok (.putfield 18, 3) := by decide +kernel
theorem dX4_init_30 : decode cX4_init 30 = .ok (.return_, 1) := by decide +kernel
set_option maxRecDepth 20000 in
theorem ggX4_prepare_J7_fill_53178 : GoodIn wsX4_prepare wsJ7_fill_53178 := goodIn_r _ [10] (by decide +kernel) (by decide +kernel)
set_option maxRecDepth 20000 in
theorem gX4_prepare_J7_fill_53178 : GoodIn wsX4_prepare (va_wsS RX4 31 yJ7_fill_53178 wsJ7_fill_53178) := goodIn_app (goodIn_of _ (by decide +kernel)) ggX4_prepare_J7_fill_53178
set_option maxRecDepth 20000 in
theorem ggX4_prepare_X4_numberHighs : GoodIn wsX4_prepare wsX4_numberHighs := goodIn_r _ [15, 16, 6, 17, 18, 14, 19, 20, 21, 22, 23, 24, 25, 32, 33, 34, 35, 36] (by decide +kernel) (by decide +kernel)
set_option maxRecDepth 20000 in
theorem gX4_prepare_X4_numberHighs : GoodIn wsX4_prepare (wsV RX4 37 RX4 yX4_numberHighs wsX4_numberHighs) := goodIn_app (goodIn_of _ (by decide +kernel)) ggX4_prepare_X4_numberHighs
set_option maxRecDepth 20000 in
theorem ggX4_prepare_X4_numberLows : GoodIn wsX4_prepare wsX4_numberLows := goodIn_r _ [29, 30, 6, 1, 2, 3, 4, 31, 17, 18, 14, 19, 20, 21, 22, 23, 24, 25, 32, 33, 34, 35, 36] (by decide +kernel) (by decide +kernel)
set_option maxRecDepth 20000 in
theorem gX4_prepare_X4_numberLows : GoodIn wsX4_prepare (wsV RX4 41 RX4 yX4_numberLows wsX4_numberLows) := goodIn_app (goodIn_of _ (by decide +kernel)) ggX4_prepare_X4_numberLows
theorem dX4_prepare_0 : decode cX4_prepare 0 = .ok (.iload_n 2, 1) := by decide +kernel
theorem dX4_prepare_1 : decode cX4_prepare 1 = .ok (.iconst 4, 1) := by decide +kernel
theorem dX4_prepare_2 : decode cX4_prepare 2 = .ok (.invokestatic 21, 3) := by decide +kernel
theorem dX4_prepare_5 : decode cX4_prepare 5 = .ok (.istore_n 3, 1) := by decide +kernel
theorem dX4_prepare_6 : decode cX4_prepare 6 = .ok (.aload_n 0, 1) := by decide +kernel
theorem dX4_prepare_7 : decode cX4_prepare 7 = .ok (.iconst 2, 1) := by decide +kernel
theorem dX4_prepare_8 : decode cX4_prepare 8 = .ok (.iload_n 2, 1) := by decide +kernel
theorem dX4_prepare_9 : decode cX4_prepare 9 = .ok (.iload_n 3, 1) := by decide +kernel
theorem dX4_prepare_10 : decode cX4_prepare 10 = .ok (.isub, 1) := by decide +kernel
theorem dX4_prepare_11 : decode cX4_prepare 11 = .ok (.imul, 1) := by decide +kernel
theorem dX4_prepare_12 : decode cX4_prepare 12 = .ok (.putfield 27, 3) := by decide +kernel
theorem dX4_prepare_15 : decode cX4_prepare 15 = .ok (.aload_n 0, 1) := by decide +kernel
theorem dX4_prepare_16 : decode cX4_prepare 16 = .ok (.getfield 18, 3) := by decide +kernel
theorem dX4_prepare_19 : decode cX4_prepare 19 = .ok (.iconst 0, 1) := by decide +kernel
theorem dX4_prepare_20 : decode cX4_prepare 20 = .ok (.invokestatic 31, 3) := by decide +kernel
theorem dX4_prepare_23 : decode cX4_prepare 23 = .ok (.aload_n 0, 1) := by decide +kernel
theorem dX4_prepare_24 : decode cX4_prepare 24 = .ok (.iconst 1, 1) := by decide +kernel
theorem dX4_prepare_25 : decode cX4_prepare 25 = .ok (.iconst 2, 1) := by decide +kernel
theorem dX4_prepare_26 : decode cX4_prepare 26 = .ok (.iload_n 3, 1) := by decide +kernel
theorem dX4_prepare_27 : decode cX4_prepare 27 = .ok (.imul, 1) := by decide +kernel
theorem dX4_prepare_28 : decode cX4_prepare 28 = .ok (.ishl, 1) := by decide +kernel
theorem dX4_prepare_29 : decode cX4_prepare 29 = .ok (.invokevirtual 37, 3) := by decide +kernel
theorem dX4_prepare_32 : decode cX4_prepare 32 = .ok (.aload_n 0, 1) := by decide +kernel
theorem dX4_prepare_33 : decode cX4_prepare 33 = .ok (.iconst 1, 1) := by decide +kernel
theorem dX4_prepare_34 : decode cX4_prepare 34 = .ok (.aload_n 0, 1) := by decide +kernel
theorem dX4_prepare_35 : decode cX4_prepare 35 = .ok (.getfield 27, 3) := by decide +kernel
theorem dX4_prepare_38 : decode cX4_prepare 38 = .ok (.ishl, 1) := by decide +kernel
theorem dX4_prepare_39 : decode cX4_prepare 39 = .ok (.iload_n 1, 1) := by decide +kernel
theorem dX4_prepare_40 : decode cX4_prepare 40 = .ok (.invokevirtual 41, 3) := by decide +kernel
theorem dX4_prepare_43 : decode cX4_prepare 43 = .ok (.return_, 1) := by decide +kernel
set_option maxRecDepth 20000 in
theorem ggX4_numberHighs_X4_tally : GoodIn wsX4_numberHighs wsX4_tally := goodIn_r _ [6, 7, 8, 9] (by decide +kernel) (by decide +kernel)
set_option maxRecDepth 20000 in
theorem gX4_numberHighs_X4_tally : GoodIn wsX4_numberHighs (va_wsS RX4 45 yX4_tally wsX4_tally) := goodIn_app (goodIn_of _ (by decide +kernel)) ggX4_numberHighs_X4_tally
set_option maxRecDepth 20000 in
theorem ggX4_numberHighs_X4_mixtureOf : GoodIn wsX4_numberHighs wsX4_mixtureOf := goodIn_r _ [12] (by decide +kernel) (by decide +kernel)
set_option maxRecDepth 20000 in
theorem gX4_numberHighs_X4_mixtureOf : GoodIn wsX4_numberHighs (va_wsS RX4 49 yX4_mixtureOf wsX4_mixtureOf) := goodIn_app (goodIn_of _ (by decide +kernel)) ggX4_numberHighs_X4_mixtureOf
theorem dX4_numberHighs_0 : decode cX4_numberHighs 0 = .ok (.iconst 0, 1) := by decide +kernel
theorem dX4_numberHighs_1 : decode cX4_numberHighs 1 = .ok (.istore_n 2, 1) := by decide +kernel
theorem dX4_numberHighs_2 : decode cX4_numberHighs 2 = .ok (.iload_n 2, 1) := by decide +kernel
theorem dX4_numberHighs_3 : decode cX4_numberHighs 3 = .ok (.iload_n 1, 1) := by decide +kernel
theorem dX4_numberHighs_4 : decode cX4_numberHighs 4 = .ok (.if_icmp .ge 52, 3) := by decide +kernel
theorem dX4_numberHighs_7 : decode cX4_numberHighs 7 = .ok (.iload_n 2, 1) := by decide +kernel
theorem dX4_numberHighs_8 : decode cX4_numberHighs 8 = .ok (.sipush 256, 3) := by decide +kernel
theorem dX4_numberHighs_11 : decode cX4_numberHighs 11 = .ok (.if_icmp .ge 45, 3) := by decide +kernel
theorem dX4_numberHighs_14 : decode cX4_numberHighs 14 = .ok (.iload_n 2, 1) := by decide +kernel
theorem dX4_numberHighs_15 : decode cX4_numberHighs 15 = .ok (.invokestatic 45, 3) := by decide +kernel
theorem dX4_numberHighs_18 : decode cX4_numberHighs 18 = .ok (.iconst 0, 1) := by decide +kernel
theorem dX4_numberHighs_19 : decode cX4_numberHighs 19 = .ok (.invokestatic 49, 3) := by decide +kernel
theorem dX4_numberHighs_22 : decode cX4_numberHighs 22 = .ok (.istore_n 3, 1) := by decide +kernel
theorem dX4_numberHighs_23 : decode cX4_numberHighs 23 = .ok (.iload_n 3, 1) := by decide +kernel
theorem dX4_numberHighs_24 : decode cX4_numberHighs 24 = .ok (.iconst (-1), 1) := by decide +kernel
theorem dX4_numberHighs_25 : decode cX4_numberHighs 25 = .ok (.if_icmp .eq 25, 3) := by decide +kernel
theorem dX4_numberHighs_28 : decode cX4_numberHighs 28 = .ok (.aload_n 0, 1) := by decide +kernel
theorem dX4_numberHighs_29 : decode cX4_numberHighs 29 = .ok (.getfield 15, 3) := by decide +kernel
theorem dX4_numberHighs_32 : decode cX4_numberHighs 32 = .ok (.iload_n 2, 1) := by decide +kernel
theorem dX4_numberHighs_33 : decode cX4_numberHighs 33 = .ok (.aload_n 0, 1) := by decide +kernel
theorem dX4_numberHighs_34 : decode cX4_numberHighs 34 = .ok (.getfield 18, 3) := by decide +kernel
theorem dX4_numberHighs_37 : decode cX4_numberHighs 37 = .ok (.iload_n 3, 1) := by decide +kernel
theorem dX4_numberHighs_38 : decode cX4_numberHighs 38 = .ok (.iaload, 1) := by decide +kernel
theorem dX4_numberHighs_39 : decode cX4_numberHighs 39 = .ok (.iastore, 1) := by decide +kernel
theorem dX4_numberHighs_40 : decode cX4_numberHighs 40 = .ok (.aload_n 0, 1) := by decide +kernel
theorem dX4_numberHighs_41 : decode cX4_numberHighs 41 = .ok (.getfield 18, 3) := by decide +kernel
theorem dX4_numberHighs_44 : decode cX4_numberHighs 44 = .ok (.iload_n 3, 1) := by decide +kernel
theorem dX4_numberHighs_45 : decode cX4_numberHighs 45 = .ok (.dup2, 1) := by decide +kernel
theorem dX4_numberHighs_46 : decode cX4_numberHighs 46 = .ok (.iaload, 1) := by decide +kernel
theorem dX4_numberHighs_47 : decode cX4_numberHighs 47 = .ok (.iconst 1, 1) := by decide +kernel
theorem dX4_numberHighs_48 : decode cX4_numberHighs 48 = .ok (.iadd, 1) := by decide +kernel
theorem dX4_numberHighs_49 : decode cX4_numberHighs 49 = .ok (.iastore, 1) := by decide +kernel
theorem dX4_numberHighs_50 : decode cX4_numberHighs 50 = .ok (.iinc 2 1, 3) := by decide +kernel
theorem dX4_numberHighs_53 : decode cX4_numberHighs 53 = .ok (.goto (-51), 3) := by decide +kernel
theorem dX4_numberHighs_56 : decode cX4_numberHighs 56 = .ok (.return_, 1) := by decide +kernel
set_option maxRecDepth 20000 in
theorem ggX4_numberLows_X4_tally : GoodIn wsX4_numberLows wsX4_tally := goodIn_r _ [11, 12, 13, 14] (by decide +kernel) (by decide +kernel)
set_option maxRecDepth 20000 in
theorem gX4_numberLows_X4_tally : GoodIn wsX4_numberLows (va_wsS RX4 45 yX4_tally wsX4_tally) := goodIn_app (goodIn_of _ (by decide +kernel)) ggX4_numberLows_X4_tally
set_option maxRecDepth 20000 in
theorem ggX4_numberLows_X4_mixtureOf : GoodIn wsX4_numberLows wsX4_mixtureOf := goodIn_r _ [17] (by decide +kernel) (by decide +kernel)
set_option maxRecDepth 20000 in
theorem gX4_numberLows_X4_mixtureOf : GoodIn wsX4_numberLows (va_wsS RX4 49 yX4_mixtureOf wsX4_mixtureOf) := goodIn_app (goodIn_of _ (by decide +kernel)) ggX4_numberLows_X4_mixtureOf
theorem dX4_numberLows_0 : decode cX4_numberLows 0 = .ok (.iload_n 2, 1) := by decide +kernel
theorem dX4_numberLows_1 : decode cX4_numberLows 1 = .ok (.invokestatic 45, 3) := by decide +kernel
theorem dX4_numberLows_4 : decode cX4_numberLows 4 = .ok (.istore_n 3, 1) := by decide +kernel
theorem dX4_numberLows_5 : decode cX4_numberLows 5 = .ok (.iconst 0, 1) := by decide +kernel
theorem dX4_numberLows_6 : decode cX4_numberLows 6 = .ok (.istore 4, 2) := by decide +kernel
theorem dX4_numberLows_8 : decode cX4_numberLows 8 = .ok (.iconst 0, 1) := by decide +kernel
theorem dX4_numberLows_9 : decode cX4_numberLows 9 = .ok (.istore 5, 2) := by decide +kernel
theorem dX4_numberLows_11 : decode cX4_numberLows 11 = .ok (.iload 5, 2) := by decide +kernel
theorem dX4_numberLows_13 : decode cX4_numberLows 13 = .ok (.iload_n 1, 1) := by decide +kernel
theorem dX4_numberLows_14 : decode cX4_numberLows 14 = .ok (.if_icmp .ge 55, 3) := by decide +kernel
theorem dX4_numberLows_17 : decode cX4_numberLows 17 = .ok (.iload 5, 2) := by decide +kernel
theorem dX4_numberLows_19 : decode cX4_numberLows 19 = .ok (.sipush 1024, 3) := by decide +kernel
theorem dX4_numberLows_22 : decode cX4_numberLows 22 = .ok (.if_icmp .ge 47, 3) := by decide +kernel
theorem dX4_numberLows_25 : decode cX4_numberLows 25 = .ok (.aload_n 0, 1) := by decide +kernel
theorem dX4_numberLows_26 : decode cX4_numberLows 26 = .ok (.getfield 11, 3) := by decide +kernel
theorem dX4_numberLows_29 : decode cX4_numberLows 29 = .ok (.iload 5, 2) := by decide +kernel
theorem dX4_numberLows_31 : decode cX4_numberLows 31 = .ok (.iload 4, 2) := by decide +kernel
theorem dX4_numberLows_33 : decode cX4_numberLows 33 = .ok (.iastore, 1) := by decide +kernel
theorem dX4_numberLows_34 : decode cX4_numberLows 34 = .ok (.iload_n 3, 1) := by decide +kernel
theorem dX4_numberLows_35 : decode cX4_numberLows 35 = .ok (.iload 5, 2) := by decide +kernel
theorem dX4_numberLows_37 : decode cX4_numberLows 37 = .ok (.invokestatic 45, 3) := by decide +kernel
theorem dX4_numberLows_40 : decode cX4_numberLows 40 = .ok (.invokestatic 49, 3) := by decide +kernel
theorem dX4_numberLows_43 : decode cX4_numberLows 43 = .ok (.istore 6, 2) := by decide +kernel
theorem dX4_numberLows_45 : decode cX4_numberLows 45 = .ok (.iload 6, 2) := by decide +kernel
theorem dX4_numberLows_47 : decode cX4_numberLows 47 = .ok (.iconst (-1), 1) := by decide +kernel
theorem dX4_numberLows_48 : decode cX4_numberLows 48 = .ok (.if_icmp .eq 15, 3) := by decide +kernel
theorem dX4_numberLows_51 : decode cX4_numberLows 51 = .ok (.iload 4, 2) := by decide +kernel
theorem dX4_numberLows_53 : decode cX4_numberLows 53 = .ok (.aload_n 0, 1) := by decide +kernel
theorem dX4_numberLows_54 : decode cX4_numberLows 54 = .ok (.getfield 18, 3) := by decide +kernel
theorem dX4_numberLows_57 : decode cX4_numberLows 57 = .ok (.iload 6, 2) := by decide +kernel
theorem dX4_numberLows_59 : decode cX4_numberLows 59 = .ok (.iaload, 1) := by decide +kernel
theorem dX4_numberLows_60 : decode cX4_numberLows 60 = .ok (.iadd, 1) := by decide +kernel
theorem dX4_numberLows_61 : decode cX4_numberLows 61 = .ok (.istore 4, 2) := by decide +kernel
theorem dX4_numberLows_63 : decode cX4_numberLows 63 = .ok (.iinc 5 1, 3) := by decide +kernel
theorem dX4_numberLows_66 : decode cX4_numberLows 66 = .ok (.goto (-55), 3) := by decide +kernel
theorem dX4_numberLows_69 : decode cX4_numberLows 69 = .ok (.aload_n 0, 1) := by decide +kernel
theorem dX4_numberLows_70 : decode cX4_numberLows 70 = .ok (.iload 4, 2) := by decide +kernel
theorem dX4_numberLows_72 : decode cX4_numberLows 72 = .ok (.sipush 7560, 3) := by decide +kernel
theorem dX4_numberLows_75 : decode cX4_numberLows 75 = .ok (.invokestatic 21, 3) := by decide +kernel
theorem dX4_numberLows_78 : decode cX4_numberLows 78 = .ok (.putfield 52, 3) := by decide +kernel
theorem dX4_numberLows_81 : decode cX4_numberLows 81 = .ok (.return_, 1) := by decide +kernel
set_option maxRecDepth 20000 in
theorem ggX4_tally_X9_kindAt : GoodIn wsX4_tally wsX9_kindAt := goodIn_r _ [3] (by decide +kernel) (by decide +kernel)
set_option maxRecDepth 20000 in
theorem gX4_tally_X9_kindAt_n55 : GoodIn wsX4_tally (wsX9_kindAt) := ggX4_tally_X9_kindAt
theorem dX4_tally_0 : decode cX4_tally 0 = .ok (.iconst 0, 1) := by decide +kernel
theorem dX4_tally_1 : decode cX4_tally 1 = .ok (.istore_n 1, 1) := by decide +kernel
theorem dX4_tally_2 : decode cX4_tally 2 = .ok (.iconst 0, 1) := by decide +kernel
theorem dX4_tally_3 : decode cX4_tally 3 = .ok (.istore_n 2, 1) := by decide +kernel
theorem dX4_tally_4 : decode cX4_tally 4 = .ok (.iload_n 2, 1) := by decide +kernel
theorem dX4_tally_5 : decode cX4_tally 5 = .ok (.bipush 9, 2) := by decide +kernel
theorem dX4_tally_7 : decode cX4_tally 7 = .ok (.if_icmp .ge 22, 3) := by decide +kernel
theorem dX4_tally_10 : decode cX4_tally 10 = .ok (.iload_n 1, 1) := by decide +kernel
theorem dX4_tally_11 : decode cX4_tally 11 = .ok (.iconst 1, 1) := by decide +kernel
theorem dX4_tally_12 : decode cX4_tally 12 = .ok (.bipush 8, 2) := by decide +kernel
theorem dX4_tally_14 : decode cX4_tally 14 = .ok (.iload_n 0, 1) := by decide +kernel
theorem dX4_tally_15 : decode cX4_tally 15 = .ok (.iload_n 2, 1) := by decide +kernel
theorem dX4_tally_16 : decode cX4_tally 16 = .ok (.invokestatic 55, 3) := by decide +kernel
theorem dX4_tally_19 : decode cX4_tally 19 = .ok (.imul, 1) := by decide +kernel
theorem dX4_tally_20 : decode cX4_tally 20 = .ok (.ishl, 1) := by decide +kernel
theorem dX4_tally_21 : decode cX4_tally 21 = .ok (.iadd, 1) := by decide +kernel
theorem dX4_tally_22 : decode cX4_tally 22 = .ok (.istore_n 1, 1) := by decide +kernel
theorem dX4_tally_23 : decode cX4_tally 23 = .ok (.iinc 2 1, 3) := by decide +kernel
theorem dX4_tally_26 : decode cX4_tally 26 = .ok (.goto (-22), 3) := by decide +kernel
theorem dX4_tally_29 : decode cX4_tally 29 = .ok (.iload_n 1, 1) := by decide +kernel
theorem dX4_tally_30 : decode cX4_tally 30 = .ok (.bipush 8, 2) := by decide +kernel
theorem dX4_tally_32 : decode cX4_tally 32 = .ok (.ishr, 1) := by decide +kernel
theorem dX4_tally_33 : decode cX4_tally 33 = .ok (.ireturn, 1) := by decide +kernel
theorem dX4_mixtureOf_0 : decode cX4_mixtureOf 0 = .ok (.iconst 0, 1) := by decide +kernel
theorem dX4_mixtureOf_1 : decode cX4_mixtureOf 1 = .ok (.istore_n 2, 1) := by decide +kernel
theorem dX4_mixtureOf_2 : decode cX4_mixtureOf 2 = .ok (.iconst 0, 1) := by decide +kernel
theorem dX4_mixtureOf_3 : decode cX4_mixtureOf 3 = .ok (.istore_n 3, 1) := by decide +kernel
theorem dX4_mixtureOf_4 : decode cX4_mixtureOf 4 = .ok (.iload_n 3, 1) := by decide +kernel
theorem dX4_mixtureOf_5 : decode cX4_mixtureOf 5 = .ok (.bipush 16, 2) := by decide +kernel
theorem dX4_mixtureOf_7 : decode cX4_mixtureOf 7 = .ok (.if_icmp .gt 46, 3) := by decide +kernel
theorem dX4_mixtureOf_10 : decode cX4_mixtureOf 10 = .ok (.iload_n 0, 1) := by decide +kernel
theorem dX4_mixtureOf_11 : decode cX4_mixtureOf 11 = .ok (.iload_n 3, 1) := by decide +kernel
theorem dX4_mixtureOf_12 : decode cX4_mixtureOf 12 = .ok (.ishr, 1) := by decide +kernel
theorem dX4_mixtureOf_13 : decode cX4_mixtureOf 13 = .ok (.sipush 255, 3) := by decide +kernel
theorem dX4_mixtureOf_16 : decode cX4_mixtureOf 16 = .ok (.iand, 1) := by decide +kernel
theorem dX4_mixtureOf_17 : decode cX4_mixtureOf 17 = .ok (.iload_n 1, 1) := by decide +kernel
theorem dX4_mixtureOf_18 : decode cX4_mixtureOf 18 = .ok (.iload_n 3, 1) := by decide +kernel
theorem dX4_mixtureOf_19 : decode cX4_mixtureOf 19 = .ok (.ishr, 1) := by decide +kernel
theorem dX4_mixtureOf_20 : decode cX4_mixtureOf 20 = .ok (.sipush 255, 3) := by decide +kernel
theorem dX4_mixtureOf_23 : decode cX4_mixtureOf 23 = .ok (.iand, 1) := by decide +kernel
theorem dX4_mixtureOf_24 : decode cX4_mixtureOf 24 = .ok (.isub, 1) := by decide +kernel
theorem dX4_mixtureOf_25 : decode cX4_mixtureOf 25 = .ok (.istore 4, 2) := by decide +kernel
theorem dX4_mixtureOf_27 : decode cX4_mixtureOf 27 = .ok (.iload 4, 2) := by decide +kernel
theorem dX4_mixtureOf_29 : decode cX4_mixtureOf 29 = .ok (.ifCond .lt 9, 3) := by decide +kernel
theorem dX4_mixtureOf_32 : decode cX4_mixtureOf 32 = .ok (.iload 4, 2) := by decide +kernel
theorem dX4_mixtureOf_34 : decode cX4_mixtureOf 34 = .ok (.iconst 4, 1) := by decide +kernel
theorem dX4_mixtureOf_35 : decode cX4_mixtureOf 35 = .ok (.if_icmp .le 5, 3) := by decide +kernel
theorem dX4_mixtureOf_38 : decode cX4_mixtureOf 38 = .ok (.iconst (-1), 1) := by decide +kernel
theorem dX4_mixtureOf_39 : decode cX4_mixtureOf 39 = .ok (.ireturn, 1) := by decide +kernel
theorem dX4_mixtureOf_40 : decode cX4_mixtureOf 40 = .ok (.iload_n 2, 1) := by decide +kernel
theorem dX4_mixtureOf_41 : decode cX4_mixtureOf 41 = .ok (.iconst 5, 1) := by decide +kernel
theorem dX4_mixtureOf_42 : decode cX4_mixtureOf 42 = .ok (.imul, 1) := by decide +kernel
theorem dX4_mixtureOf_43 : decode cX4_mixtureOf 43 = .ok (.iload 4, 2) := by decide +kernel
theorem dX4_mixtureOf_45 : decode cX4_mixtureOf 45 = .ok (.iadd, 1) := by decide +kernel
theorem dX4_mixtureOf_46 : decode cX4_mixtureOf 46 = .ok (.istore_n 2, 1) := by decide +kernel
theorem dX4_mixtureOf_47 : decode cX4_mixtureOf 47 = .ok (.iinc 3 8, 3) := by decide +kernel
theorem dX4_mixtureOf_50 : decode cX4_mixtureOf 50 = .ok (.goto (-46), 3) := by decide +kernel
theorem dX4_mixtureOf_53 : decode cX4_mixtureOf 53 = .ok (.iload_n 2, 1) := by decide +kernel
theorem dX4_mixtureOf_54 : decode cX4_mixtureOf 54 = .ok (.ireturn, 1) := by decide +kernel
theorem dX4_numberOf_0 : decode cX4_numberOf 0 = .ok (.iload_n 1, 1) := by decide +kernel
theorem dX4_numberOf_1 : decode cX4_numberOf 1 = .ok (.iconst 1, 1) := by decide +kernel
theorem dX4_numberOf_2 : decode cX4_numberOf 2 = .ok (.aload_n 0, 1) := by decide +kernel
theorem dX4_numberOf_3 : decode cX4_numberOf 3 = .ok (.getfield 27, 3) := by decide +kernel
theorem dX4_numberOf_6 : decode cX4_numberOf 6 = .ok (.ishl, 1) := by decide +kernel
theorem dX4_numberOf_7 : decode cX4_numberOf 7 = .ok (.iconst 1, 1) := by decide +kernel
theorem dX4_numberOf_8 : decode cX4_numberOf 8 = .ok (.isub, 1) := by decide +kernel
theorem dX4_numberOf_9 : decode cX4_numberOf 9 = .ok (.iand, 1) := by decide +kernel
theorem dX4_numberOf_10 : decode cX4_numberOf 10 = .ok (.istore_n 2, 1) := by decide +kernel
theorem dX4_numberOf_11 : decode cX4_numberOf 11 = .ok (.iload_n 1, 1) := by decide +kernel
theorem dX4_numberOf_12 : decode cX4_numberOf 12 = .ok (.aload_n 0, 1) := by decide +kernel
theorem dX4_numberOf_13 : decode cX4_numberOf 13 = .ok (.getfield 27, 3) := by decide +kernel
theorem dX4_numberOf_16 : decode cX4_numberOf 16 = .ok (.ishr, 1) := by decide +kernel
theorem dX4_numberOf_17 : decode cX4_numberOf 17 = .ok (.istore_n 3, 1) := by decide +kernel
theorem dX4_numberOf_18 : decode cX4_numberOf 18 = .ok (.iload_n 2, 1) := by decide +kernel
theorem dX4_numberOf_19 : decode cX4_numberOf 19 = .ok (.ifCond .lt 21, 3) := by decide +kernel
theorem dX4_numberOf_22 : decode cX4_numberOf 22 = .ok (.iload_n 2, 1) := by decide +kernel
theorem dX4_numberOf_23 : decode cX4_numberOf 23 = .ok (.sipush 1024, 3) := by decide +kernel
theorem dX4_numberOf_26 : decode cX4_numberOf 26 = .ok (.if_icmp .ge 14, 3) := by decide +kernel
theorem dX4_numberOf_29 : decode cX4_numberOf 29 = .ok (.iload_n 3, 1) := by decide +kernel
theorem dX4_numberOf_30 : decode cX4_numberOf 30 = .ok (.ifCond .lt 10, 3) := by decide +kernel
theorem dX4_numberOf_33 : decode cX4_numberOf 33 = .ok (.iload_n 3, 1) := by decide +kernel
theorem dX4_numberOf_34 : decode cX4_numberOf 34 = .ok (.sipush 256, 3) := by decide +kernel
theorem dX4_numberOf_37 : decode cX4_numberOf 37 = .ok (.if_icmp .lt 5, 3) := by decide +kernel
theorem dX4_numberOf_40 : decode cX4_numberOf 40 = .ok (.iconst (-1), 1) := by decide +kernel
theorem dX4_numberOf_41 : decode cX4_numberOf 41 = .ok (.ireturn, 1) := by decide +kernel
theorem dX4_numberOf_42 : decode cX4_numberOf 42 = .ok (.aload_n 0, 1) := by decide +kernel
theorem dX4_numberOf_43 : decode cX4_numberOf 43 = .ok (.getfield 11, 3) := by decide +kernel
theorem dX4_numberOf_46 : decode cX4_numberOf 46 = .ok (.iload_n 2, 1) := by decide +kernel
theorem dX4_numberOf_47 : decode cX4_numberOf 47 = .ok (.iaload, 1) := by decide +kernel
theorem dX4_numberOf_48 : decode cX4_numberOf 48 = .ok (.aload_n 0, 1) := by decide +kernel
theorem dX4_numberOf_49 : decode cX4_numberOf 49 = .ok (.getfield 15, 3) := by decide +kernel
theorem dX4_numberOf_52 : decode cX4_numberOf 52 = .ok (.iload_n 3, 1) := by decide +kernel
theorem dX4_numberOf_53 : decode cX4_numberOf 53 = .ok (.iaload, 1) := by decide +kernel
theorem dX4_numberOf_54 : decode cX4_numberOf 54 = .ok (.iadd, 1) := by decide +kernel
theorem dX4_numberOf_55 : decode cX4_numberOf 55 = .ok (.istore 4, 2) := by decide +kernel
theorem dX4_numberOf_57 : decode cX4_numberOf 57 = .ok (.iload 4, 2) := by decide +kernel
theorem dX4_numberOf_59 : decode cX4_numberOf 59 = .ok (.aload_n 0, 1) := by decide +kernel
theorem dX4_numberOf_60 : decode cX4_numberOf 60 = .ok (.getfield 52, 3) := by decide +kernel
theorem dX4_numberOf_63 : decode cX4_numberOf 63 = .ok (.if_icmp .ge 8, 3) := by decide +kernel
theorem dX4_numberOf_66 : decode cX4_numberOf 66 = .ok (.iload 4, 2) := by decide +kernel
theorem dX4_numberOf_68 : decode cX4_numberOf 68 = .ok (.goto 4, 3) := by decide +kernel
theorem dX4_numberOf_71 : decode cX4_numberOf 71 = .ok (.iconst (-1), 1) := by decide +kernel
theorem dX4_numberOf_72 : decode cX4_numberOf 72 = .ok (.ireturn, 1) := by decide +kernel
theorem dX5_init_0 : decode cX5_init 0 = .ok (.aload_n 0, 1) := by decide +kernel
theorem dX5_init_1 : decode cX5_init 1 = .ok (.invokespecial 3, 3) := by decide +kernel
theorem dX5_init_4 : decode cX5_init 4 = .ok (.aload_n 0, 1) := by decide +kernel
theorem dX5_init_5 : decode cX5_init 5 = .ok (.bipush 24, 2) := by decide +kernel
theorem dX5_init_7 : decode cX5_init 7 = .ok (.newarray .int, 2) := by decide +kernel
theorem dX5_init_9 : decode cX5_init 9 = .ok (.putfield 9, 3) := by decide +kernel
theorem dX5_init_12 : decode cX5_init 12 = .ok (.return_, 1) := by decide +kernel
theorem dX5_byteOf_0 : decode cX5_byteOf 0 = .ok (.lload_n 0, 1) := by decide +kernel
theorem dX5_byteOf_1 : decode cX5_byteOf 1 = .ok (.bipush 8, 2) := by decide +kernel
theorem dX5_byteOf_3 : decode cX5_byteOf 3 = .ok (.iload_n 2, 1) := by decide +kernel
theorem dX5_byteOf_4 : decode cX5_byteOf 4 = .ok (.imul, 1) := by decide +kernel
theorem dX5_byteOf_5 : decode cX5_byteOf 5 = .ok (.lushr, 1) := by decide +kernel
theorem dX5_byteOf_6 : decode cX5_byteOf 6 = .ok (.l2i, 1) := by decide +kernel
theorem dX5_byteOf_7 : decode cX5_byteOf 7 = .ok (.sipush 255, 3) := by decide +kernel
theorem dX5_byteOf_10 : decode cX5_byteOf 10 = .ok (.iand, 1) := by decide +kernel
theorem dX5_byteOf_11 : decode cX5_byteOf 11 = .ok (.ireturn, 1) := by decide +kernel
set_option maxRecDepth 20000 in
theorem ggX5_lettersIn_X5_byteOf : GoodIn wsX5_lettersIn wsX5_byteOf := goodIn_r _ [4] (by decide +kernel) (by decide +kernel)
set_option maxRecDepth 20000 in
theorem gX5_lettersIn_X5_byteOf : GoodIn wsX5_lettersIn (va_wsS RX5 15 yX5_byteOf wsX5_byteOf) := goodIn_app (goodIn_of _ (by decide +kernel)) ggX5_lettersIn_X5_byteOf
theorem dX5_lettersIn_0 : decode cX5_lettersIn 0 = .ok (.iconst 0, 1) := by decide +kernel
theorem dX5_lettersIn_1 : decode cX5_lettersIn 1 = .ok (.istore_n 2, 1) := by decide +kernel
theorem dX5_lettersIn_2 : decode cX5_lettersIn 2 = .ok (.iconst 0, 1) := by decide +kernel
theorem dX5_lettersIn_3 : decode cX5_lettersIn 3 = .ok (.istore_n 3, 1) := by decide +kernel
theorem dX5_lettersIn_4 : decode cX5_lettersIn 4 = .ok (.iconst 0, 1) := by decide +kernel
theorem dX5_lettersIn_5 : decode cX5_lettersIn 5 = .ok (.istore 4, 2) := by decide +kernel
theorem dX5_lettersIn_7 : decode cX5_lettersIn 7 = .ok (.iload 4, 2) := by decide +kernel
theorem dX5_lettersIn_9 : decode cX5_lettersIn 9 = .ok (.bipush 8, 2) := by decide +kernel
theorem dX5_lettersIn_11 : decode cX5_lettersIn 11 = .ok (.if_icmp .ge 49, 3) := by decide +kernel
theorem dX5_lettersIn_14 : decode cX5_lettersIn 14 = .ok (.lload_n 0, 1) := by decide +kernel
theorem dX5_lettersIn_15 : decode cX5_lettersIn 15 = .ok (.iload 4, 2) := by decide +kernel
theorem dX5_lettersIn_17 : decode cX5_lettersIn 17 = .ok (.invokestatic 15, 3) := by decide +kernel
theorem dX5_lettersIn_20 : decode cX5_lettersIn 20 = .ok (.istore 5, 2) := by decide +kernel
theorem dX5_lettersIn_22 : decode cX5_lettersIn 22 = .ok (.iload 5, 2) := by decide +kernel
theorem dX5_lettersIn_24 : decode cX5_lettersIn 24 = .ok (.bipush 126, 2) := by decide +kernel
theorem dX5_lettersIn_26 : decode cX5_lettersIn 26 = .ok (.if_icmp .gt 12, 3) := by decide +kernel
theorem dX5_lettersIn_29 : decode cX5_lettersIn 29 = .ok (.iload_n 3, 1) := by decide +kernel
theorem dX5_lettersIn_30 : decode cX5_lettersIn 30 = .ok (.ifCond .eq 11, 3) := by decide +kernel
theorem dX5_lettersIn_33 : decode cX5_lettersIn 33 = .ok (.iload 5, 2) := by decide +kernel
theorem dX5_lettersIn_35 : decode cX5_lettersIn 35 = .ok (.ifCond .eq 6, 3) := by decide +kernel
theorem dX5_lettersIn_38 : decode cX5_lettersIn 38 = .ok (.bipush (-102), 2) := by decide +kernel
theorem dX5_lettersIn_40 : decode cX5_lettersIn 40 = .ok (.ireturn, 1) := by decide +kernel
theorem dX5_lettersIn_41 : decode cX5_lettersIn 41 = .ok (.iload 5, 2) := by decide +kernel
theorem dX5_lettersIn_43 : decode cX5_lettersIn 43 = .ok (.ifCond .ne 8, 3) := by decide +kernel
theorem dX5_lettersIn_46 : decode cX5_lettersIn 46 = .ok (.iconst 1, 1) := by decide +kernel
theorem dX5_lettersIn_47 : decode cX5_lettersIn 47 = .ok (.istore_n 3, 1) := by decide +kernel
theorem dX5_lettersIn_48 : decode cX5_lettersIn 48 = .ok (.goto 6, 3) := by decide +kernel
theorem dX5_lettersIn_51 : decode cX5_lettersIn 51 = .ok (.iinc 2 1, 3) := by decide +kernel
theorem dX5_lettersIn_54 : decode cX5_lettersIn 54 = .ok (.iinc 4 1, 3) := by decide +kernel
theorem dX5_lettersIn_57 : decode cX5_lettersIn 57 = .ok (.goto (-50), 3) := by decide +kernel
theorem dX5_lettersIn_60 : decode cX5_lettersIn 60 = .ok (.iload_n 2, 1) := by decide +kernel
theorem dX5_lettersIn_61 : decode cX5_lettersIn 61 = .ok (.ireturn, 1) := by decide +kernel
set_option maxRecDepth 20000 in
theorem ggX5_append_X5_byteOf : GoodIn wsX5_append wsX5_byteOf := goodIn_r _ [6] (by decide +kernel) (by decide +kernel)
set_option maxRecDepth 20000 in
theorem gX5_append_X5_byteOf : GoodIn wsX5_append (va_wsS RX5 15 yX5_byteOf wsX5_byteOf) := goodIn_app (goodIn_of _ (by decide +kernel)) ggX5_append_X5_byteOf
theorem dX5_append_0 : decode cX5_append 0 = .ok (.iconst 0, 1) := by decide +kernel
theorem dX5_append_1 : decode cX5_append 1 = .ok (.istore 4, 2) := by decide +kernel
theorem dX5_append_3 : decode cX5_append 3 = .ok (.iload 4, 2) := by decide +kernel
theorem dX5_append_5 : decode cX5_append 5 = .ok (.iload_n 3, 1) := by decide +kernel
theorem dX5_append_6 : decode cX5_append 6 = .ok (.if_icmp .ge 43, 3) := by decide +kernel
theorem dX5_append_9 : decode cX5_append 9 = .ok (.aload_n 0, 1) := by decide +kernel
theorem dX5_append_10 : decode cX5_append 10 = .ok (.getfield 19, 3) := by decide +kernel
theorem dX5_append_13 : decode cX5_append 13 = .ok (.bipush 24, 2) := by decide +kernel
theorem dX5_append_15 : decode cX5_append 15 = .ok (.if_icmp .ge 34, 3) := by decide +kernel
theorem dX5_append_18 : decode cX5_append 18 = .ok (.aload_n 0, 1) := by decide +kernel
theorem dX5_append_19 : decode cX5_append 19 = .ok (.getfield 9, 3) := by decide +kernel
theorem dX5_append_22 : decode cX5_append 22 = .ok (.aload_n 0, 1) := by decide +kernel
theorem dX5_append_23 : decode cX5_append 23 = .ok (.getfield 19, 3) := by decide +kernel
theorem dX5_append_26 : decode cX5_append 26 = .ok (.lload_n 1, 1) := by decide +kernel
theorem dX5_append_27 : decode cX5_append 27 = .ok (.iload 4, 2) := by decide +kernel
theorem dX5_append_29 : decode cX5_append 29 = .ok (.invokestatic 15, 3) := by decide +kernel
theorem dX5_append_32 : decode cX5_append 32 = .ok (.iastore, 1) := by decide +kernel
theorem dX5_append_33 : decode cX5_append 33 = .ok (.aload_n 0, 1) := by decide +kernel
theorem dX5_append_34 : decode cX5_append 34 = .ok (.dup, 1) := by decide +kernel
theorem dX5_append_35 : decode cX5_append 35 = .ok (.getfield 19, 3) := by decide +kernel
theorem dX5_append_38 : decode cX5_append 38 = .ok (.iconst 1, 1) := by decide +kernel
theorem dX5_append_39 : decode cX5_append 39 = .ok (.iadd, 1) := by decide +kernel
theorem dX5_append_40 : decode cX5_append 40 = .ok (.putfield 19, 3) := by decide +kernel
theorem dX5_append_43 : decode cX5_append 43 = .ok (.iinc 4 1, 3) := by decide +kernel
theorem dX5_append_46 : decode cX5_append 46 = .ok (.goto (-43), 3) := by decide +kernel
theorem dX5_append_49 : decode cX5_append 49 = .ok (.return_, 1) := by decide +kernel
theorem dX5_clear_0 : decode cX5_clear 0 = .ok (.aload_n 0, 1) := by decide +kernel
theorem dX5_clear_1 : decode cX5_clear 1 = .ok (.iconst 0, 1) := by decide +kernel
theorem dX5_clear_2 : decode cX5_clear 2 = .ok (.putfield 19, 3) := by decide +kernel
theorem dX5_clear_5 : decode cX5_clear 5 = .ok (.return_, 1) := by decide +kernel
theorem dX5_letterAt_0 : decode cX5_letterAt 0 = .ok (.iload_n 1, 1) := by decide +kernel
theorem dX5_letterAt_1 : decode cX5_letterAt 1 = .ok (.ifCond .lt 20, 3) := by decide +kernel
theorem dX5_letterAt_4 : decode cX5_letterAt 4 = .ok (.iload_n 1, 1) := by decide +kernel
theorem dX5_letterAt_5 : decode cX5_letterAt 5 = .ok (.aload_n 0, 1) := by decide +kernel
theorem dX5_letterAt_6 : decode cX5_letterAt 6 = .ok (.getfield 19, 3) := by decide +kernel
theorem dX5_letterAt_9 : decode cX5_letterAt 9 = .ok (.if_icmp .ge 12, 3) := by decide +kernel
theorem dX5_letterAt_12 : decode cX5_letterAt 12 = .ok (.aload_n 0, 1) := by decide +kernel
theorem dX5_letterAt_13 : decode cX5_letterAt 13 = .ok (.getfield 9, 3) := by decide +kernel
theorem dX5_letterAt_16 : decode cX5_letterAt 16 = .ok (.iload_n 1, 1) := by decide +kernel
theorem dX5_letterAt_17 : decode cX5_letterAt 17 = .ok (.iaload, 1) := by decide +kernel
theorem dX5_letterAt_18 : decode cX5_letterAt 18 = .ok (.goto 4, 3) := by decide +kernel
theorem dX5_letterAt_21 : decode cX5_letterAt 21 = .ok (.iconst 0, 1) := by decide +kernel
theorem dX5_letterAt_22 : decode cX5_letterAt 22 = .ok (.ireturn, 1) := by decide +kernel
set_option maxRecDepth 20000 in
theorem ggX5_orderAt_X5_letterAt : GoodIn wsX5_orderAt wsX5_letterAt := goodIn_r _ [5, 6, 7, 11, 12] (by decide +kernel) (by decide +kernel)
set_option maxRecDepth 20000 in
theorem gX5_orderAt_X5_letterAt : GoodIn wsX5_orderAt (wsV RX5 23 RX5 yX5_letterAt wsX5_letterAt) := goodIn_app (goodIn_of _ (by decide +kernel)) ggX5_orderAt_X5_letterAt
set_option maxRecDepth 20000 in
theorem ggX5_orderAt_X9_kindOfLetter : GoodIn wsX5_orderAt wsX9_kindOfLetter := goodIn_r _ [10] (by decide +kernel) (by decide +kernel)
set_option maxRecDepth 20000 in
theorem gX5_orderAt_X9_kindOfLetter_n27 : GoodIn wsX5_orderAt (wsX9_kindOfLetter) := ggX5_orderAt_X9_kindOfLetter
theorem dX5_orderAt_0 : decode cX5_orderAt 0 = .ok (.iconst 0, 1) := by decide +kernel
theorem dX5_orderAt_1 : decode cX5_orderAt 1 = .ok (.istore_n 3, 1) := by decide +kernel
theorem dX5_orderAt_2 : decode cX5_orderAt 2 = .ok (.iconst 0, 1) := by decide +kernel
theorem dX5_orderAt_3 : decode cX5_orderAt 3 = .ok (.istore 4, 2) := by decide +kernel
theorem dX5_orderAt_5 : decode cX5_orderAt 5 = .ok (.iload 4, 2) := by decide +kernel
theorem dX5_orderAt_7 : decode cX5_orderAt 7 = .ok (.iload_n 2, 1) := by decide +kernel
theorem dX5_orderAt_8 : decode cX5_orderAt 8 = .ok (.if_icmp .ge 37, 3) := by decide +kernel
theorem dX5_orderAt_11 : decode cX5_orderAt 11 = .ok (.aload_n 0, 1) := by decide +kernel
theorem dX5_orderAt_12 : decode cX5_orderAt 12 = .ok (.iload_n 1, 1) := by decide +kernel
theorem dX5_orderAt_13 : decode cX5_orderAt 13 = .ok (.iload 4, 2) := by decide +kernel
theorem dX5_orderAt_15 : decode cX5_orderAt 15 = .ok (.iadd, 1) := by decide +kernel
theorem dX5_orderAt_16 : decode cX5_orderAt 16 = .ok (.invokevirtual 23, 3) := by decide +kernel
theorem dX5_orderAt_19 : decode cX5_orderAt 19 = .ok (.invokestatic 27, 3) := by decide +kernel
theorem dX5_orderAt_22 : decode cX5_orderAt 22 = .ok (.istore 5, 2) := by decide +kernel
theorem dX5_orderAt_24 : decode cX5_orderAt 24 = .ok (.iload 5, 2) := by decide +kernel
theorem dX5_orderAt_26 : decode cX5_orderAt 26 = .ok (.ifCond .le 13, 3) := by decide +kernel
theorem dX5_orderAt_29 : decode cX5_orderAt 29 = .ok (.iload_n 3, 1) := by decide +kernel
theorem dX5_orderAt_30 : decode cX5_orderAt 30 = .ok (.iload 5, 2) := by decide +kernel
theorem dX5_orderAt_32 : decode cX5_orderAt 32 = .ok (.iconst 2, 1) := by decide +kernel
theorem dX5_orderAt_33 : decode cX5_orderAt 33 = .ok (.iload 4, 2) := by decide +kernel
theorem dX5_orderAt_35 : decode cX5_orderAt 35 = .ok (.imul, 1) := by decide +kernel
theorem dX5_orderAt_36 : decode cX5_orderAt 36 = .ok (.ishl, 1) := by decide +kernel
theorem dX5_orderAt_37 : decode cX5_orderAt 37 = .ok (.ior, 1) := by decide +kernel
theorem dX5_orderAt_38 : decode cX5_orderAt 38 = .ok (.istore_n 3, 1) := by decide +kernel
theorem dX5_orderAt_39 : decode cX5_orderAt 39 = .ok (.iinc 4 1, 3) := by decide +kernel
theorem dX5_orderAt_42 : decode cX5_orderAt 42 = .ok (.goto (-37), 3) := by decide +kernel
theorem dX5_orderAt_45 : decode cX5_orderAt 45 = .ok (.iload_n 3, 1) := by decide +kernel
theorem dX5_orderAt_46 : decode cX5_orderAt 46 = .ok (.ireturn, 1) := by decide +kernel
theorem dX6_init_0 : decode cX6_init 0 = .ok (.aload_n 0, 1) := by decide +kernel
theorem dX6_init_1 : decode cX6_init 1 = .ok (.invokespecial 3, 3) := by decide +kernel
theorem dX6_init_4 : decode cX6_init 4 = .ok (.aload_n 0, 1) := by decide +kernel
theorem dX6_init_5 : decode cX6_init 5 = .ok (.bipush 9, 2) := by decide +kernel
theorem dX6_init_7 : decode cX6_init 7 = .ok (.newarray .int, 2) := by decide +kernel
theorem dX6_init_9 : decode cX6_init 9 = .ok (.putfield 9, 3) := by decide +kernel
theorem dX6_init_12 : decode cX6_init 12 = .ok (.aload_n 0, 1) := by decide +kernel
theorem dX6_init_13 : decode cX6_init 13 = .ok (.bipush 9, 2) := by decide +kernel
theorem dX6_init_15 : decode cX6_init 15 = .ok (.newarray .int, 2) := by decide +kernel
theorem dX6_init_17 : decode cX6_init 17 = .ok (.putfield 15, 3) := by decide +kernel
theorem dX6_init_20 : decode cX6_init 20 = .ok (.return_, 1) := by decide +kernel
set_option maxRecDepth 20000 in
theorem ggX6_lay_X5_letterAt : GoodIn wsX6_lay wsX5_letterAt := goodIn_r _ [16, 17, 18, 37, 38] (by decide +kernel) (by decide +kernel)
set_option maxRecDepth 20000 in
theorem gX6_lay_X5_letterAt : GoodIn wsX6_lay (wsV RX6 45 RX5 yX5_letterAt wsX5_letterAt) := goodIn_app (goodIn_of _ (by decide +kernel)) ggX6_lay_X5_letterAt
set_option maxRecDepth 20000 in
theorem ggX6_lay_X6_depthOf : GoodIn wsX6_lay wsX6_depthOf := goodIn_r _ [23, 10, 31, 32, 33, 34, 35, 36] (by decide +kernel) (by decide +kernel)
set_option maxRecDepth 20000 in
theorem gX6_lay_X6_depthOf : GoodIn wsX6_lay (wsV RX6 51 RX6 yX6_depthOf wsX6_depthOf) := goodIn_app (goodIn_of _ (by decide +kernel)) ggX6_lay_X6_depthOf
theorem dX6_lay_0 : decode cX6_lay 0 = .ok (.aload_n 0, 1) := by decide +kernel
theorem dX6_lay_1 : decode cX6_lay 1 = .ok (.aload_n 1, 1) := by decide +kernel
theorem dX6_lay_2 : decode cX6_lay 2 = .ok (.getfield 18, 3) := by decide +kernel
theorem dX6_lay_5 : decode cX6_lay 5 = .ok (.putfield 24, 3) := by decide +kernel
theorem dX6_lay_8 : decode cX6_lay 8 = .ok (.aload_n 0, 1) := by decide +kernel
theorem dX6_lay_9 : decode cX6_lay 9 = .ok (.aload_n 1, 1) := by decide +kernel
theorem dX6_lay_10 : decode cX6_lay 10 = .ok (.getfield 25, 3) := by decide +kernel
theorem dX6_lay_13 : decode cX6_lay 13 = .ok (.bipush 114, 2) := by decide +kernel
theorem dX6_lay_15 : decode cX6_lay 15 = .ok (.if_icmp .ne 7, 3) := by decide +kernel
theorem dX6_lay_18 : decode cX6_lay 18 = .ok (.iconst 1, 1) := by decide +kernel
theorem dX6_lay_19 : decode cX6_lay 19 = .ok (.goto 4, 3) := by decide +kernel
theorem dX6_lay_22 : decode cX6_lay 22 = .ok (.iconst 0, 1) := by decide +kernel
theorem dX6_lay_23 : decode cX6_lay 23 = .ok (.putfield 28, 3) := by decide +kernel
theorem dX6_lay_26 : decode cX6_lay 26 = .ok (.aload_n 0, 1) := by decide +kernel
theorem dX6_lay_27 : decode cX6_lay 27 = .ok (.aload_n 1, 1) := by decide +kernel
theorem dX6_lay_28 : decode cX6_lay 28 = .ok (.getfield 32, 3) := by decide +kernel
theorem dX6_lay_31 : decode cX6_lay 31 = .ok (.putfield 35, 3) := by decide +kernel
theorem dX6_lay_34 : decode cX6_lay 34 = .ok (.aload_n 0, 1) := by decide +kernel
theorem dX6_lay_35 : decode cX6_lay 35 = .ok (.aload_n 1, 1) := by decide +kernel
theorem dX6_lay_36 : decode cX6_lay 36 = .ok (.getfield 36, 3) := by decide +kernel
theorem dX6_lay_39 : decode cX6_lay 39 = .ok (.ifCond .eq 7, 3) := by decide +kernel
theorem dX6_lay_42 : decode cX6_lay 42 = .ok (.iconst 3, 1) := by decide +kernel
theorem dX6_lay_43 : decode cX6_lay 43 = .ok (.goto 4, 3) := by decide +kernel
theorem dX6_lay_46 : decode cX6_lay 46 = .ok (.iconst 2, 1) := by decide +kernel
theorem dX6_lay_47 : decode cX6_lay 47 = .ok (.putfield 39, 3) := by decide +kernel
theorem dX6_lay_50 : decode cX6_lay 50 = .ok (.aload_n 0, 1) := by decide +kernel
theorem dX6_lay_51 : decode cX6_lay 51 = .ok (.getfield 9, 3) := by decide +kernel
theorem dX6_lay_54 : decode cX6_lay 54 = .ok (.iconst 0, 1) := by decide +kernel
theorem dX6_lay_55 : decode cX6_lay 55 = .ok (.aload_n 0, 1) := by decide +kernel
theorem dX6_lay_56 : decode cX6_lay 56 = .ok (.getfield 28, 3) := by decide +kernel
theorem dX6_lay_59 : decode cX6_lay 59 = .ok (.ifCond .eq 12, 3) := by decide +kernel
theorem dX6_lay_62 : decode cX6_lay 62 = .ok (.aload_n 0, 1) := by decide +kernel
theorem dX6_lay_63 : decode cX6_lay 63 = .ok (.getfield 24, 3) := by decide +kernel
theorem dX6_lay_66 : decode cX6_lay 66 = .ok (.iconst 1, 1) := by decide +kernel
theorem dX6_lay_67 : decode cX6_lay 67 = .ok (.isub, 1) := by decide +kernel
theorem dX6_lay_68 : decode cX6_lay 68 = .ok (.goto 4, 3) := by decide +kernel
theorem dX6_lay_71 : decode cX6_lay 71 = .ok (.iconst (-1), 1) := by decide +kernel
theorem dX6_lay_72 : decode cX6_lay 72 = .ok (.iastore, 1) := by decide +kernel
theorem dX6_lay_73 : decode cX6_lay 73 = .ok (.aload_n 0, 1) := by decide +kernel
theorem dX6_lay_74 : decode cX6_lay 74 = .ok (.getfield 15, 3) := by decide +kernel
theorem dX6_lay_77 : decode cX6_lay 77 = .ok (.iconst 0, 1) := by decide +kernel
theorem dX6_lay_78 : decode cX6_lay 78 = .ok (.iconst 0, 1) := by decide +kernel
theorem dX6_lay_79 : decode cX6_lay 79 = .ok (.iastore, 1) := by decide +kernel
theorem dX6_lay_80 : decode cX6_lay 80 = .ok (.aload_n 1, 1) := by decide +kernel
theorem dX6_lay_81 : decode cX6_lay 81 = .ok (.getfield 42, 3) := by decide +kernel
theorem dX6_lay_84 : decode cX6_lay 84 = .ok (.aload_n 0, 1) := by decide +kernel
theorem dX6_lay_85 : decode cX6_lay 85 = .ok (.getfield 24, 3) := by decide +kernel
theorem dX6_lay_88 : decode cX6_lay 88 = .ok (.iadd, 1) := by decide +kernel
theorem dX6_lay_89 : decode cX6_lay 89 = .ok (.istore_n 3, 1) := by decide +kernel
theorem dX6_lay_90 : decode cX6_lay 90 = .ok (.iconst 1, 1) := by decide +kernel
theorem dX6_lay_91 : decode cX6_lay 91 = .ok (.istore 4, 2) := by decide +kernel
theorem dX6_lay_93 : decode cX6_lay 93 = .ok (.iload 4, 2) := by decide +kernel
theorem dX6_lay_95 : decode cX6_lay 95 = .ok (.aload_n 0, 1) := by decide +kernel
theorem dX6_lay_96 : decode cX6_lay 96 = .ok (.getfield 24, 3) := by decide +kernel
theorem dX6_lay_99 : decode cX6_lay 99 = .ok (.if_icmp .ge 69, 3) := by decide +kernel
theorem dX6_lay_102 : decode cX6_lay 102 = .ok (.iload 4, 2) := by decide +kernel
theorem dX6_lay_104 : decode cX6_lay 104 = .ok (.bipush 9, 2) := by decide +kernel
theorem dX6_lay_106 : decode cX6_lay 106 = .ok (.if_icmp .ge 62, 3) := by decide +kernel
theorem dX6_lay_109 : decode cX6_lay 109 = .ok (.aload_n 1, 1) := by decide +kernel
theorem dX6_lay_110 : decode cX6_lay 110 = .ok (.getfield 25, 3) := by decide +kernel
theorem dX6_lay_113 : decode cX6_lay 113 = .ok (.bipush 116, 2) := by decide +kernel
theorem dX6_lay_115 : decode cX6_lay 115 = .ok (.if_icmp .ne 17, 3) := by decide +kernel
theorem dX6_lay_118 : decode cX6_lay 118 = .ok (.aload_n 2, 1) := by decide +kernel
theorem dX6_lay_119 : decode cX6_lay 119 = .ok (.iload_n 3, 1) := by decide +kernel
theorem dX6_lay_120 : decode cX6_lay 120 = .ok (.iload 4, 2) := by decide +kernel
theorem dX6_lay_122 : decode cX6_lay 122 = .ok (.iadd, 1) := by decide +kernel
theorem dX6_lay_123 : decode cX6_lay 123 = .ok (.invokevirtual 45, 3) := by decide +kernel
theorem dX6_lay_126 : decode cX6_lay 126 = .ok (.bipush 48, 2) := by decide +kernel
theorem dX6_lay_128 : decode cX6_lay 128 = .ok (.isub, 1) := by decide +kernel
theorem dX6_lay_129 : decode cX6_lay 129 = .ok (.goto 7, 3) := by decide +kernel
theorem dX6_lay_132 : decode cX6_lay 132 = .ok (.iload 4, 2) := by decide +kernel
theorem dX6_lay_134 : decode cX6_lay 134 = .ok (.iconst 1, 1) := by decide +kernel
theorem dX6_lay_135 : decode cX6_lay 135 = .ok (.isub, 1) := by decide +kernel
theorem dX6_lay_136 : decode cX6_lay 136 = .ok (.istore 5, 2) := by decide +kernel
theorem dX6_lay_138 : decode cX6_lay 138 = .ok (.aload_n 0, 1) := by decide +kernel
theorem dX6_lay_139 : decode cX6_lay 139 = .ok (.getfield 9, 3) := by decide +kernel
theorem dX6_lay_142 : decode cX6_lay 142 = .ok (.iload 4, 2) := by decide +kernel
theorem dX6_lay_144 : decode cX6_lay 144 = .ok (.iload 5, 2) := by decide +kernel
theorem dX6_lay_146 : decode cX6_lay 146 = .ok (.iastore, 1) := by decide +kernel
theorem dX6_lay_147 : decode cX6_lay 147 = .ok (.aload_n 0, 1) := by decide +kernel
theorem dX6_lay_148 : decode cX6_lay 148 = .ok (.getfield 15, 3) := by decide +kernel
theorem dX6_lay_151 : decode cX6_lay 151 = .ok (.iload 4, 2) := by decide +kernel
theorem dX6_lay_153 : decode cX6_lay 153 = .ok (.aload_n 0, 1) := by decide +kernel
theorem dX6_lay_154 : decode cX6_lay 154 = .ok (.iload 5, 2) := by decide +kernel
theorem dX6_lay_156 : decode cX6_lay 156 = .ok (.invokevirtual 51, 3) := by decide +kernel
theorem dX6_lay_159 : decode cX6_lay 159 = .ok (.iconst 1, 1) := by decide +kernel
theorem dX6_lay_160 : decode cX6_lay 160 = .ok (.iadd, 1) := by decide +kernel
theorem dX6_lay_161 : decode cX6_lay 161 = .ok (.iastore, 1) := by decide +kernel
theorem dX6_lay_162 : decode cX6_lay 162 = .ok (.iinc 4 1, 3) := by decide +kernel
theorem dX6_lay_165 : decode cX6_lay 165 = .ok (.goto (-72), 3) := by decide +kernel
theorem dX6_lay_168 : decode cX6_lay 168 = .ok (.return_, 1) := by decide +kernel
theorem dX6_behind_0 : decode cX6_behind 0 = .ok (.iload_n 1, 1) := by decide +kernel
theorem dX6_behind_1 : decode cX6_behind 1 = .ok (.ifCond .lt 18, 3) := by decide +kernel
theorem dX6_behind_4 : decode cX6_behind 4 = .ok (.iload_n 1, 1) := by decide +kernel
theorem dX6_behind_5 : decode cX6_behind 5 = .ok (.bipush 9, 2) := by decide +kernel
theorem dX6_behind_7 : decode cX6_behind 7 = .ok (.if_icmp .ge 12, 3) := by decide +kernel
theorem dX6_behind_10 : decode cX6_behind 10 = .ok (.aload_n 0, 1) := by decide +kernel
theorem dX6_behind_11 : decode cX6_behind 11 = .ok (.getfield 9, 3) := by decide +kernel
theorem dX6_behind_14 : decode cX6_behind 14 = .ok (.iload_n 1, 1) := by decide +kernel
theorem dX6_behind_15 : decode cX6_behind 15 = .ok (.iaload, 1) := by decide +kernel
theorem dX6_behind_16 : decode cX6_behind 16 = .ok (.goto 4, 3) := by decide +kernel
theorem dX6_behind_19 : decode cX6_behind 19 = .ok (.iconst (-1), 1) := by decide +kernel
theorem dX6_behind_20 : decode cX6_behind 20 = .ok (.ireturn, 1) := by decide +kernel
theorem dX6_depthOf_0 : decode cX6_depthOf 0 = .ok (.iload_n 1, 1) := by decide +kernel
theorem dX6_depthOf_1 : decode cX6_depthOf 1 = .ok (.ifCond .lt 18, 3) := by decide +kernel
theorem dX6_depthOf_4 : decode cX6_depthOf 4 = .ok (.iload_n 1, 1) := by decide +kernel
theorem dX6_depthOf_5 : decode cX6_depthOf 5 = .ok (.bipush 9, 2) := by decide +kernel
theorem dX6_depthOf_7 : decode cX6_depthOf 7 = .ok (.if_icmp .ge 12, 3) := by decide +kernel
theorem dX6_depthOf_10 : decode cX6_depthOf 10 = .ok (.aload_n 0, 1) := by decide +kernel
theorem dX6_depthOf_11 : decode cX6_depthOf 11 = .ok (.getfield 15, 3) := by decide +kernel
theorem dX6_depthOf_14 : decode cX6_depthOf 14 = .ok (.iload_n 1, 1) := by decide +kernel
theorem dX6_depthOf_15 : decode cX6_depthOf 15 = .ok (.iaload, 1) := by decide +kernel
theorem dX6_depthOf_16 : decode cX6_depthOf 16 = .ok (.goto 4, 3) := by decide +kernel
theorem dX6_depthOf_19 : decode cX6_depthOf 19 = .ok (.iconst 0, 1) := by decide +kernel
theorem dX6_depthOf_20 : decode cX6_depthOf 20 = .ok (.ireturn, 1) := by decide +kernel
theorem dX6_turned_0 : decode cX6_turned 0 = .ok (.iconst 1, 1) := by decide +kernel
theorem dX6_turned_1 : decode cX6_turned 1 = .ok (.iconst 2, 1) := by decide +kernel
theorem dX6_turned_2 : decode cX6_turned 2 = .ok (.aload_n 0, 1) := by decide +kernel
theorem dX6_turned_3 : decode cX6_turned 3 = .ok (.getfield 24, 3) := by decide +kernel
theorem dX6_turned_6 : decode cX6_turned 6 = .ok (.imul, 1) := by decide +kernel
theorem dX6_turned_7 : decode cX6_turned 7 = .ok (.ishl, 1) := by decide +kernel
theorem dX6_turned_8 : decode cX6_turned 8 = .ok (.iconst 1, 1) := by decide +kernel
theorem dX6_turned_9 : decode cX6_turned 9 = .ok (.isub, 1) := by decide +kernel
theorem dX6_turned_10 : decode cX6_turned 10 = .ok (.istore_n 3, 1) := by decide +kernel
theorem dX6_turned_11 : decode cX6_turned 11 = .ok (.iload_n 1, 1) := by decide +kernel
theorem dX6_turned_12 : decode cX6_turned 12 = .ok (.iconst 2, 1) := by decide +kernel
theorem dX6_turned_13 : decode cX6_turned 13 = .ok (.iload_n 2, 1) := by decide +kernel
theorem dX6_turned_14 : decode cX6_turned 14 = .ok (.imul, 1) := by decide +kernel
theorem dX6_turned_15 : decode cX6_turned 15 = .ok (.ishl, 1) := by decide +kernel
theorem dX6_turned_16 : decode cX6_turned 16 = .ok (.iload_n 1, 1) := by decide +kernel
theorem dX6_turned_17 : decode cX6_turned 17 = .ok (.iconst 2, 1) := by decide +kernel
theorem dX6_turned_18 : decode cX6_turned 18 = .ok (.aload_n 0, 1) := by decide +kernel
theorem dX6_turned_19 : decode cX6_turned 19 = .ok (.getfield 24, 3) := by decide +kernel
theorem dX6_turned_22 : decode cX6_turned 22 = .ok (.iload_n 2, 1) := by decide +kernel
theorem dX6_turned_23 : decode cX6_turned 23 = .ok (.isub, 1) := by decide +kernel
theorem dX6_turned_24 : decode cX6_turned 24 = .ok (.imul, 1) := by decide +kernel
theorem dX6_turned_25 : decode cX6_turned 25 = .ok (.ishr, 1) := by decide +kernel
theorem dX6_turned_26 : decode cX6_turned 26 = .ok (.ior, 1) := by decide +kernel
theorem dX6_turned_27 : decode cX6_turned 27 = .ok (.iload_n 3, 1) := by decide +kernel
theorem dX6_turned_28 : decode cX6_turned 28 = .ok (.iand, 1) := by decide +kernel
theorem dX6_turned_29 : decode cX6_turned 29 = .ok (.ireturn, 1) := by decide +kernel
theorem dX7_init_0 : decode cX7_init 0 = .ok (.aload_n 0, 1) := by decide +kernel
theorem dX7_init_1 : decode cX7_init 1 = .ok (.invokespecial 3, 3) := by decide +kernel
theorem dX7_init_4 : decode cX7_init 4 = .ok (.return_, 1) := by decide +kernel
set_option maxRecDepth 20000 in
theorem ggX7_read_X7_readForm : GoodIn wsX7_read wsX7_readForm := goodIn_r _ [13, 7, 4, 14, 15, 16, 17, 18, 19, 20, 36, 37, 38, 39, 40, 41, 42, 43, 44] (by decide +kernel) (by decide +kernel)
set_option maxRecDepth 20000 in
theorem gX7_read_X7_readForm : GoodIn wsX7_read (wsV RX7 25 RX7 yX7_readForm wsX7_readForm) := goodIn_app (goodIn_of _ (by decide +kernel)) ggX7_read_X7_readForm
set_option maxRecDepth 20000 in
theorem ggX7_read_X7_takes : GoodIn wsX7_read wsX7_takes := goodIn_r _ [24, 4, 14, 15, 16, 17, 18, 19, 20, 36, 37, 38, 39, 40, 41, 42, 43, 44] (by decide +kernel) (by decide +kernel)
set_option maxRecDepth 20000 in
theorem gX7_read_X7_takes : GoodIn wsX7_read (wsV RX7 29 RX7 yX7_takes wsX7_takes) := goodIn_app (goodIn_of _ (by decide +kernel)) ggX7_read_X7_takes
set_option maxRecDepth 20000 in
theorem ggX7_read_X7_readStones : GoodIn wsX7_read wsX7_readStones := goodIn_r _ [28, 4, 2, 3, 14, 15, 16, 17, 18, 19, 20, 29, 30, 31, 36, 37, 38, 39, 40, 41, 42, 43, 44] (by decide +kernel) (by decide +kernel)
set_option maxRecDepth 20000 in
theorem gX7_read_X7_readStones : GoodIn wsX7_read (wsV RX7 39 RX7 yX7_readStones wsX7_readStones) := goodIn_app (goodIn_of _ (by decide +kernel)) ggX7_read_X7_readStones
set_option maxRecDepth 20000 in
theorem ggX7_read_X7_readParents : GoodIn wsX7_read wsX7_readParents := goodIn_r _ [35, 3, 4, 21, 22, 23, 12, 24, 14, 15, 16, 17, 18, 19, 20, 36, 37, 38, 39, 40, 41, 42, 43, 44] (by decide +kernel) (by decide +kernel)
set_option maxRecDepth 20000 in
theorem gX7_read_X7_readParents : GoodIn wsX7_read (wsV RX7 45 RX7 yX7_readParents wsX7_readParents) := goodIn_app (goodIn_of _ (by decide +kernel)) ggX7_read_X7_readParents
theorem dX7_read_0 : decode cX7_read 0 = .ok (.aload_n 0, 1) := by decide +kernel
theorem dX7_read_1 : decode cX7_read 1 = .ok (.iconst 0, 1) := by decide +kernel
theorem dX7_read_2 : decode cX7_read 2 = .ok (.putfield 9, 3) := by decide +kernel
theorem dX7_read_5 : decode cX7_read 5 = .ok (.aload_n 0, 1) := by decide +kernel
theorem dX7_read_6 : decode cX7_read 6 = .ok (.iconst 0, 1) := by decide +kernel
theorem dX7_read_7 : decode cX7_read 7 = .ok (.putfield 15, 3) := by decide +kernel
theorem dX7_read_10 : decode cX7_read 10 = .ok (.aload_n 0, 1) := by decide +kernel
theorem dX7_read_11 : decode cX7_read 11 = .ok (.iconst 0, 1) := by decide +kernel
theorem dX7_read_12 : decode cX7_read 12 = .ok (.putfield 19, 3) := by decide +kernel
theorem dX7_read_15 : decode cX7_read 15 = .ok (.aload_n 0, 1) := by decide +kernel
theorem dX7_read_16 : decode cX7_read 16 = .ok (.iconst 0, 1) := by decide +kernel
theorem dX7_read_17 : decode cX7_read 17 = .ok (.putfield 22, 3) := by decide +kernel
theorem dX7_read_20 : decode cX7_read 20 = .ok (.aload_n 0, 1) := by decide +kernel
theorem dX7_read_21 : decode cX7_read 21 = .ok (.aload_n 1, 1) := by decide +kernel
theorem dX7_read_22 : decode cX7_read 22 = .ok (.invokevirtual 25, 3) := by decide +kernel
theorem dX7_read_25 : decode cX7_read 25 = .ok (.aload_n 0, 1) := by decide +kernel
theorem dX7_read_26 : decode cX7_read 26 = .ok (.getfield 22, 3) := by decide +kernel
theorem dX7_read_29 : decode cX7_read 29 = .ok (.ifCond .ne 4, 3) := by decide +kernel
theorem dX7_read_32 : decode cX7_read 32 = .ok (.return_, 1) := by decide +kernel
theorem dX7_read_33 : decode cX7_read 33 = .ok (.aload_n 0, 1) := by decide +kernel
theorem dX7_read_34 : decode cX7_read 34 = .ok (.aload_n 0, 1) := by decide +kernel
theorem dX7_read_35 : decode cX7_read 35 = .ok (.aload_n 1, 1) := by decide +kernel
theorem dX7_read_36 : decode cX7_read 36 = .ok (.bipush 111, 2) := by decide +kernel
theorem dX7_read_38 : decode cX7_read 38 = .ok (.invokevirtual 29, 3) := by decide +kernel
theorem dX7_read_41 : decode cX7_read 41 = .ok (.putfield 33, 3) := by decide +kernel
theorem dX7_read_44 : decode cX7_read 44 = .ok (.aload_n 0, 1) := by decide +kernel
theorem dX7_read_45 : decode cX7_read 45 = .ok (.aload_n 0, 1) := by decide +kernel
theorem dX7_read_46 : decode cX7_read 46 = .ok (.aload_n 1, 1) := by decide +kernel
theorem dX7_read_47 : decode cX7_read 47 = .ok (.bipush 50, 2) := by decide +kernel
theorem dX7_read_49 : decode cX7_read 49 = .ok (.invokevirtual 29, 3) := by decide +kernel
theorem dX7_read_52 : decode cX7_read 52 = .ok (.putfield 36, 3) := by decide +kernel
theorem dX7_read_55 : decode cX7_read 55 = .ok (.aload_n 0, 1) := by decide +kernel
theorem dX7_read_56 : decode cX7_read 56 = .ok (.aload_n 1, 1) := by decide +kernel
theorem dX7_read_57 : decode cX7_read 57 = .ok (.bipush 58, 2) := by decide +kernel
theorem dX7_read_59 : decode cX7_read 59 = .ok (.invokevirtual 29, 3) := by decide +kernel
theorem dX7_read_62 : decode cX7_read 62 = .ok (.ifCond .ne 4, 3) := by decide +kernel
theorem dX7_read_65 : decode cX7_read 65 = .ok (.return_, 1) := by decide +kernel
theorem dX7_read_66 : decode cX7_read 66 = .ok (.aload_n 0, 1) := by decide +kernel
theorem dX7_read_67 : decode cX7_read 67 = .ok (.aload_n 1, 1) := by decide +kernel
theorem dX7_read_68 : decode cX7_read 68 = .ok (.invokevirtual 39, 3) := by decide +kernel
theorem dX7_read_71 : decode cX7_read 71 = .ok (.aload_n 0, 1) := by decide +kernel
theorem dX7_read_72 : decode cX7_read 72 = .ok (.getfield 19, 3) := by decide +kernel
theorem dX7_read_75 : decode cX7_read 75 = .ok (.iconst 2, 1) := by decide +kernel
theorem dX7_read_76 : decode cX7_read 76 = .ok (.if_icmp .ge 4, 3) := by decide +kernel
theorem dX7_read_79 : decode cX7_read 79 = .ok (.return_, 1) := by decide +kernel
theorem dX7_read_80 : decode cX7_read 80 = .ok (.aload_n 0, 1) := by decide +kernel
theorem dX7_read_81 : decode cX7_read 81 = .ok (.getfield 42, 3) := by decide +kernel
theorem dX7_read_84 : decode cX7_read 84 = .ok (.bipush 116, 2) := by decide +kernel
theorem dX7_read_86 : decode cX7_read 86 = .ok (.if_icmp .ne 11, 3) := by decide +kernel
theorem dX7_read_89 : decode cX7_read 89 = .ok (.aload_n 0, 1) := by decide +kernel
theorem dX7_read_90 : decode cX7_read 90 = .ok (.aload_n 1, 1) := by decide +kernel
theorem dX7_read_91 : decode cX7_read 91 = .ok (.invokevirtual 45, 3) := by decide +kernel
theorem dX7_read_94 : decode cX7_read 94 = .ok (.ifCond .eq 7, 3) := by decide +kernel
theorem dX7_read_97 : decode cX7_read 97 = .ok (.iconst 1, 1) := by decide +kernel
theorem dX7_read_98 : decode cX7_read 98 = .ok (.goto 4, 3) := by decide +kernel
theorem dX7_read_101 : decode cX7_read 101 = .ok (.iconst 0, 1) := by decide +kernel
theorem dX7_read_102 : decode cX7_read 102 = .ok (.istore_n 2, 1) := by decide +kernel
theorem dX7_read_103 : decode cX7_read 103 = .ok (.aload_n 0, 1) := by decide +kernel
theorem dX7_read_104 : decode cX7_read 104 = .ok (.iload_n 2, 1) := by decide +kernel
theorem dX7_read_105 : decode cX7_read 105 = .ok (.ifCond .eq 18, 3) := by decide +kernel
theorem dX7_read_108 : decode cX7_read 108 = .ok (.aload_n 0, 1) := by decide +kernel
theorem dX7_read_109 : decode cX7_read 109 = .ok (.getfield 22, 3) := by decide +kernel
theorem dX7_read_112 : decode cX7_read 112 = .ok (.aload_n 1, 1) := by decide +kernel
theorem dX7_read_113 : decode cX7_read 113 = .ok (.getfield 49, 3) := by decide +kernel
theorem dX7_read_116 : decode cX7_read 116 = .ok (.if_icmp .ne 7, 3) := by decide +kernel
theorem dX7_read_119 : decode cX7_read 119 = .ok (.iconst 1, 1) := by decide +kernel
theorem dX7_read_120 : decode cX7_read 120 = .ok (.goto 4, 3) := by decide +kernel
theorem dX7_read_123 : decode cX7_read 123 = .ok (.iconst 0, 1) := by decide +kernel
theorem dX7_read_124 : decode cX7_read 124 = .ok (.putfield 9, 3) := by decide +kernel
theorem dX7_read_127 : decode cX7_read 127 = .ok (.return_, 1) := by decide +kernel
set_option maxRecDepth 20000 in
theorem ggX7_takes_X5_letterAt : GoodIn wsX7_takes wsX5_letterAt := goodIn_r _ [6, 7, 8, 16, 17] (by decide +kernel) (by decide +kernel)
set_option maxRecDepth 20000 in
theorem gX7_takes_X5_letterAt : GoodIn wsX7_takes (wsV RX7 52 RX5 yX5_letterAt wsX5_letterAt) := goodIn_app (goodIn_of _ (by decide +kernel)) ggX7_takes_X5_letterAt
theorem dX7_takes_0 : decode cX7_takes 0 = .ok (.aload_n 1, 1) := by decide +kernel
theorem dX7_takes_1 : decode cX7_takes 1 = .ok (.aload_n 0, 1) := by decide +kernel
theorem dX7_takes_2 : decode cX7_takes 2 = .ok (.getfield 22, 3) := by decide +kernel
theorem dX7_takes_5 : decode cX7_takes 5 = .ok (.invokevirtual 52, 3) := by decide +kernel
theorem dX7_takes_8 : decode cX7_takes 8 = .ok (.iload_n 2, 1) := by decide +kernel
theorem dX7_takes_9 : decode cX7_takes 9 = .ok (.if_icmp .eq 5, 3) := by decide +kernel
theorem dX7_takes_12 : decode cX7_takes 12 = .ok (.iconst 0, 1) := by decide +kernel
theorem dX7_takes_13 : decode cX7_takes 13 = .ok (.ireturn, 1) := by decide +kernel
theorem dX7_takes_14 : decode cX7_takes 14 = .ok (.aload_n 0, 1) := by decide +kernel
theorem dX7_takes_15 : decode cX7_takes 15 = .ok (.dup, 1) := by decide +kernel
theorem dX7_takes_16 : decode cX7_takes 16 = .ok (.getfield 22, 3) := by decide +kernel
theorem dX7_takes_19 : decode cX7_takes 19 = .ok (.iconst 1, 1) := by decide +kernel
theorem dX7_takes_20 : decode cX7_takes 20 = .ok (.iadd, 1) := by decide +kernel
theorem dX7_takes_21 : decode cX7_takes 21 = .ok (.putfield 22, 3) := by decide +kernel
theorem dX7_takes_24 : decode cX7_takes 24 = .ok (.iconst 1, 1) := by decide +kernel
theorem dX7_takes_25 : decode cX7_takes 25 = .ok (.ireturn, 1) := by decide +kernel
set_option maxRecDepth 20000 in
theorem ggX7_readForm_X5_letterAt : GoodIn wsX7_readForm wsX5_letterAt := goodIn_r _ [7, 8, 9, 17, 18] (by decide +kernel) (by decide +kernel)
set_option maxRecDepth 20000 in
theorem gX7_readForm_X5_letterAt : GoodIn wsX7_readForm (wsV RX7 52 RX5 yX5_letterAt wsX5_letterAt) := goodIn_app (goodIn_of _ (by decide +kernel)) ggX7_readForm_X5_letterAt
theorem dX7_readForm_0 : decode cX7_readForm 0 = .ok (.aload_n 0, 1) := by decide +kernel
theorem dX7_readForm_1 : decode cX7_readForm 1 = .ok (.aload_n 1, 1) := by decide +kernel
theorem dX7_readForm_2 : decode cX7_readForm 2 = .ok (.iconst 0, 1) := by decide +kernel
theorem dX7_readForm_3 : decode cX7_readForm 3 = .ok (.invokevirtual 52, 3) := by decide +kernel
theorem dX7_readForm_6 : decode cX7_readForm 6 = .ok (.putfield 42, 3) := by decide +kernel
theorem dX7_readForm_9 : decode cX7_readForm 9 = .ok (.aload_n 0, 1) := by decide +kernel
theorem dX7_readForm_10 : decode cX7_readForm 10 = .ok (.getfield 42, 3) := by decide +kernel
theorem dX7_readForm_13 : decode cX7_readForm 13 = .ok (.bipush 114, 2) := by decide +kernel
theorem dX7_readForm_15 : decode cX7_readForm 15 = .ok (.if_icmp .eq 21, 3) := by decide +kernel
theorem dX7_readForm_18 : decode cX7_readForm 18 = .ok (.aload_n 0, 1) := by decide +kernel
theorem dX7_readForm_19 : decode cX7_readForm 19 = .ok (.getfield 42, 3) := by decide +kernel
theorem dX7_readForm_22 : decode cX7_readForm 22 = .ok (.bipush 119, 2) := by decide +kernel
theorem dX7_readForm_24 : decode cX7_readForm 24 = .ok (.if_icmp .eq 12, 3) := by decide +kernel
theorem dX7_readForm_27 : decode cX7_readForm 27 = .ok (.aload_n 0, 1) := by decide +kernel
theorem dX7_readForm_28 : decode cX7_readForm 28 = .ok (.getfield 42, 3) := by decide +kernel
theorem dX7_readForm_31 : decode cX7_readForm 31 = .ok (.bipush 116, 2) := by decide +kernel
theorem dX7_readForm_33 : decode cX7_readForm 33 = .ok (.if_icmp .ne 8, 3) := by decide +kernel
theorem dX7_readForm_36 : decode cX7_readForm 36 = .ok (.aload_n 0, 1) := by decide +kernel
theorem dX7_readForm_37 : decode cX7_readForm 37 = .ok (.iconst 1, 1) := by decide +kernel
theorem dX7_readForm_38 : decode cX7_readForm 38 = .ok (.putfield 22, 3) := by decide +kernel
theorem dX7_readForm_41 : decode cX7_readForm 41 = .ok (.return_, 1) := by decide +kernel
set_option maxRecDepth 20000 in
theorem ggX7_readStones_X5_letterAt : GoodIn wsX7_readStones wsX5_letterAt := goodIn_r _ [8, 9, 10, 21, 22] (by decide +kernel) (by decide +kernel)
set_option maxRecDepth 20000 in
theorem gX7_readStones_X5_letterAt : GoodIn wsX7_readStones (wsV RX7 52 RX5 yX5_letterAt wsX5_letterAt) := goodIn_app (goodIn_of _ (by decide +kernel)) ggX7_readStones_X5_letterAt
set_option maxRecDepth 20000 in
theorem ggX7_readStones_X9_kindOfLetter : GoodIn wsX7_readStones wsX9_kindOfLetter := goodIn_r _ [13] (by decide +kernel) (by decide +kernel)
set_option maxRecDepth 20000 in
theorem gX7_readStones_X9_kindOfLetter_n56 : GoodIn wsX7_readStones (wsX9_kindOfLetter) := ggX7_readStones_X9_kindOfLetter
theorem dX7_readStones_0 : decode cX7_readStones 0 = .ok (.aload_n 0, 1) := by decide +kernel
theorem dX7_readStones_1 : decode cX7_readStones 1 = .ok (.aload_n 0, 1) := by decide +kernel
theorem dX7_readStones_2 : decode cX7_readStones 2 = .ok (.getfield 22, 3) := by decide +kernel
theorem dX7_readStones_5 : decode cX7_readStones 5 = .ok (.putfield 15, 3) := by decide +kernel
theorem dX7_readStones_8 : decode cX7_readStones 8 = .ok (.aload_n 0, 1) := by decide +kernel
theorem dX7_readStones_9 : decode cX7_readStones 9 = .ok (.getfield 19, 3) := by decide +kernel
theorem dX7_readStones_12 : decode cX7_readStones 12 = .ok (.bipush 9, 2) := by decide +kernel
theorem dX7_readStones_14 : decode cX7_readStones 14 = .ok (.if_icmp .ge 41, 3) := by decide +kernel
theorem dX7_readStones_17 : decode cX7_readStones 17 = .ok (.aload_n 1, 1) := by decide +kernel
theorem dX7_readStones_18 : decode cX7_readStones 18 = .ok (.aload_n 0, 1) := by decide +kernel
theorem dX7_readStones_19 : decode cX7_readStones 19 = .ok (.getfield 22, 3) := by decide +kernel
theorem dX7_readStones_22 : decode cX7_readStones 22 = .ok (.invokevirtual 52, 3) := by decide +kernel
theorem dX7_readStones_25 : decode cX7_readStones 25 = .ok (.invokestatic 56, 3) := by decide +kernel
theorem dX7_readStones_28 : decode cX7_readStones 28 = .ok (.iconst (-1), 1) := by decide +kernel
theorem dX7_readStones_29 : decode cX7_readStones 29 = .ok (.if_icmp .eq 26, 3) := by decide +kernel
theorem dX7_readStones_32 : decode cX7_readStones 32 = .ok (.aload_n 0, 1) := by decide +kernel
theorem dX7_readStones_33 : decode cX7_readStones 33 = .ok (.dup, 1) := by decide +kernel
theorem dX7_readStones_34 : decode cX7_readStones 34 = .ok (.getfield 19, 3) := by decide +kernel
theorem dX7_readStones_37 : decode cX7_readStones 37 = .ok (.iconst 1, 1) := by decide +kernel
theorem dX7_readStones_38 : decode cX7_readStones 38 = .ok (.iadd, 1) := by decide +kernel
theorem dX7_readStones_39 : decode cX7_readStones 39 = .ok (.putfield 19, 3) := by decide +kernel
theorem dX7_readStones_42 : decode cX7_readStones 42 = .ok (.aload_n 0, 1) := by decide +kernel
theorem dX7_readStones_43 : decode cX7_readStones 43 = .ok (.dup, 1) := by decide +kernel
theorem dX7_readStones_44 : decode cX7_readStones 44 = .ok (.getfield 22, 3) := by decide +kernel
theorem dX7_readStones_47 : decode cX7_readStones 47 = .ok (.iconst 1, 1) := by decide +kernel
theorem dX7_readStones_48 : decode cX7_readStones 48 = .ok (.iadd, 1) := by decide +kernel
theorem dX7_readStones_49 : decode cX7_readStones 49 = .ok (.putfield 22, 3) := by decide +kernel
theorem dX7_readStones_52 : decode cX7_readStones 52 = .ok (.goto (-44), 3) := by decide +kernel
theorem dX7_readStones_55 : decode cX7_readStones 55 = .ok (.return_, 1) := by decide +kernel
set_option maxRecDepth 20000 in
theorem ggX7_readParents_X7_takes : GoodIn wsX7_readParents wsX7_takes := goodIn_r _ [7, 2, 8, 9, 10, 11, 12, 13, 14, 15, 16, 17, 18, 19, 20, 21, 22, 23] (by decide +kernel) (by decide +kernel)
set_option maxRecDepth 20000 in
theorem gX7_readParents_X7_takes : GoodIn wsX7_readParents (wsV RX7 29 RX7 yX7_takes wsX7_takes) := goodIn_app (goodIn_of _ (by decide +kernel)) ggX7_readParents_X7_takes
set_option maxRecDepth 20000 in
theorem ggX7_readParents_X5_letterAt : GoodIn wsX7_readParents wsX5_letterAt := goodIn_r _ [12, 13, 14, 22, 23] (by decide +kernel) (by decide +kernel)
set_option maxRecDepth 20000 in
theorem gX7_readParents_X5_letterAt : GoodIn wsX7_readParents (wsV RX7 52 RX5 yX5_letterAt wsX5_letterAt) := goodIn_app (goodIn_of _ (by decide +kernel)) ggX7_readParents_X5_letterAt
theorem dX7_readParents_0 : decode cX7_readParents 0 = .ok (.aload_n 0, 1) := by decide +kernel
theorem dX7_readParents_1 : decode cX7_readParents 1 = .ok (.aload_n 1, 1) := by decide +kernel
theorem dX7_readParents_2 : decode cX7_readParents 2 = .ok (.bipush 47, 2) := by decide +kernel
theorem dX7_readParents_4 : decode cX7_readParents 4 = .ok (.invokevirtual 29, 3) := by decide +kernel
theorem dX7_readParents_7 : decode cX7_readParents 7 = .ok (.ifCond .ne 5, 3) := by decide +kernel
theorem dX7_readParents_10 : decode cX7_readParents 10 = .ok (.iconst 0, 1) := by decide +kernel
theorem dX7_readParents_11 : decode cX7_readParents 11 = .ok (.ireturn, 1) := by decide +kernel
theorem dX7_readParents_12 : decode cX7_readParents 12 = .ok (.iconst 1, 1) := by decide +kernel
theorem dX7_readParents_13 : decode cX7_readParents 13 = .ok (.istore_n 2, 1) := by decide +kernel
theorem dX7_readParents_14 : decode cX7_readParents 14 = .ok (.iload_n 2, 1) := by decide +kernel
theorem dX7_readParents_15 : decode cX7_readParents 15 = .ok (.aload_n 0, 1) := by decide +kernel
theorem dX7_readParents_16 : decode cX7_readParents 16 = .ok (.getfield 19, 3) := by decide +kernel
theorem dX7_readParents_19 : decode cX7_readParents 19 = .ok (.if_icmp .ge 42, 3) := by decide +kernel
theorem dX7_readParents_22 : decode cX7_readParents 22 = .ok (.aload_n 1, 1) := by decide +kernel
theorem dX7_readParents_23 : decode cX7_readParents 23 = .ok (.aload_n 0, 1) := by decide +kernel
theorem dX7_readParents_24 : decode cX7_readParents 24 = .ok (.getfield 22, 3) := by decide +kernel
theorem dX7_readParents_27 : decode cX7_readParents 27 = .ok (.invokevirtual 52, 3) := by decide +kernel
theorem dX7_readParents_30 : decode cX7_readParents 30 = .ok (.bipush 48, 2) := by decide +kernel
theorem dX7_readParents_32 : decode cX7_readParents 32 = .ok (.isub, 1) := by decide +kernel
theorem dX7_readParents_33 : decode cX7_readParents 33 = .ok (.istore_n 3, 1) := by decide +kernel
theorem dX7_readParents_34 : decode cX7_readParents 34 = .ok (.iload_n 3, 1) := by decide +kernel
theorem dX7_readParents_35 : decode cX7_readParents 35 = .ok (.ifCond .lt 8, 3) := by decide +kernel
theorem dX7_readParents_38 : decode cX7_readParents 38 = .ok (.iload_n 3, 1) := by decide +kernel
theorem dX7_readParents_39 : decode cX7_readParents 39 = .ok (.iload_n 2, 1) := by decide +kernel
theorem dX7_readParents_40 : decode cX7_readParents 40 = .ok (.if_icmp .lt 5, 3) := by decide +kernel
theorem dX7_readParents_43 : decode cX7_readParents 43 = .ok (.iconst 0, 1) := by decide +kernel
theorem dX7_readParents_44 : decode cX7_readParents 44 = .ok (.ireturn, 1) := by decide +kernel
theorem dX7_readParents_45 : decode cX7_readParents 45 = .ok (.aload_n 0, 1) := by decide +kernel
theorem dX7_readParents_46 : decode cX7_readParents 46 = .ok (.dup, 1) := by decide +kernel
theorem dX7_readParents_47 : decode cX7_readParents 47 = .ok (.getfield 22, 3) := by decide +kernel
theorem dX7_readParents_50 : decode cX7_readParents 50 = .ok (.iconst 1, 1) := by decide +kernel
theorem dX7_readParents_51 : decode cX7_readParents 51 = .ok (.iadd, 1) := by decide +kernel
theorem dX7_readParents_52 : decode cX7_readParents 52 = .ok (.putfield 22, 3) := by decide +kernel
theorem dX7_readParents_55 : decode cX7_readParents 55 = .ok (.iinc 2 1, 3) := by decide +kernel
theorem dX7_readParents_58 : decode cX7_readParents 58 = .ok (.goto (-44), 3) := by decide +kernel
theorem dX7_readParents_61 : decode cX7_readParents 61 = .ok (.iconst 1, 1) := by decide +kernel
theorem dX7_readParents_62 : decode cX7_readParents 62 = .ok (.ireturn, 1) := by decide +kernel
theorem dX8_init_0 : decode cX8_init 0 = .ok (.aload_n 0, 1) := by decide +kernel
theorem dX8_init_1 : decode cX8_init 1 = .ok (.invokespecial 3, 3) := by decide +kernel
theorem dX8_init_4 : decode cX8_init 4 = .ok (.aload_n 0, 1) := by decide +kernel
theorem dX8_init_5 : decode cX8_init 5 = .ok (.sipush 7560, 3) := by decide +kernel
theorem dX8_init_8 : decode cX8_init 8 = .ok (.newarray .int, 2) := by decide +kernel
theorem dX8_init_10 : decode cX8_init 10 = .ok (.putfield 9, 3) := by decide +kernel
theorem dX8_init_13 : decode cX8_init 13 = .ok (.aload_n 0, 1) := by decide +kernel
theorem dX8_init_14 : decode cX8_init 14 = .ok (.sipush 7560, 3) := by decide +kernel
theorem dX8_init_17 : decode cX8_init 17 = .ok (.newarray .int, 2) := by decide +kernel
theorem dX8_init_19 : decode cX8_init 19 = .ok (.putfield 15, 3) := by decide +kernel
theorem dX8_init_22 : decode cX8_init 22 = .ok (.aload_n 0, 1) := by decide +kernel
theorem dX8_init_23 : decode cX8_init 23 = .ok (.sipush 7560, 3) := by decide +kernel
theorem dX8_init_26 : decode cX8_init 26 = .ok (.newarray .long, 2) := by decide +kernel
theorem dX8_init_28 : decode cX8_init 28 = .ok (.putfield 18, 3) := by decide +kernel
theorem dX8_init_31 : decode cX8_init 31 = .ok (.aload_n 0, 1) := by decide +kernel
theorem dX8_init_32 : decode cX8_init 32 = .ok (.sipush 7560, 3) := by decide +kernel
theorem dX8_init_35 : decode cX8_init 35 = .ok (.newarray .int, 2) := by decide +kernel
theorem dX8_init_37 : decode cX8_init 37 = .ok (.putfield 22, 3) := by decide +kernel
theorem dX8_init_40 : decode cX8_init 40 = .ok (.aload_n 0, 1) := by decide +kernel
theorem dX8_init_41 : decode cX8_init 41 = .ok (.aload_n 1, 1) := by decide +kernel
theorem dX8_init_42 : decode cX8_init 42 = .ok (.putfield 25, 3) := by decide +kernel
theorem dX8_init_45 : decode cX8_init 45 = .ok (.aload_n 0, 1) := by decide +kernel
theorem dX8_init_46 : decode cX8_init 46 = .ok (.aload_n 2, 1) := by decide +kernel
theorem dX8_init_47 : decode cX8_init 47 = .ok (.putfield 29, 3) := by decide +kernel
theorem dX8_init_50 : decode cX8_init 50 = .ok (.aload_n 0, 1) := by decide +kernel
theorem dX8_init_51 : decode cX8_init 51 = .ok (.aload_n 3, 1) := by decide +kernel
theorem dX8_init_52 : decode cX8_init 52 = .ok (.putfield 33, 3) := by decide +kernel
theorem dX8_init_55 : decode cX8_init 55 = .ok (.return_, 1) := by decide +kernel
theorem dX8_forget_0 : decode cX8_forget 0 = .ok (.aload_n 0, 1) := by decide +kernel
theorem dX8_forget_1 : decode cX8_forget 1 = .ok (.iconst 0, 1) := by decide +kernel
theorem dX8_forget_2 : decode cX8_forget 2 = .ok (.putfield 37, 3) := by decide +kernel
theorem dX8_forget_5 : decode cX8_forget 5 = .ok (.return_, 1) := by decide +kernel
set_option maxRecDepth 20000 in
theorem ggX8_lookFrom_X9_fillFirst : GoodIn wsX8_lookFrom wsX9_fillFirst := goodIn_r _ [14] (by decide +kernel) (by decide +kernel)
set_option maxRecDepth 20000 in
theorem gX8_lookFrom_X9_fillFirst_n50 : GoodIn wsX8_lookFrom (wsX9_fillFirst) := ggX8_lookFrom_X9_fillFirst
set_option maxRecDepth 20000 in
theorem ggX8_lookFrom_X4_numberOf : GoodIn wsX8_lookFrom wsX4_numberOf := goodIn_r _ [19, 20, 21, 22, 23, 108, 109, 110, 111, 112] (by decide +kernel) (by decide +kernel)
set_option maxRecDepth 20000 in
theorem gX8_lookFrom_X4_numberOf : GoodIn wsX8_lookFrom (wsV RX8 63 RX4 yX4_numberOf wsX4_numberOf) := goodIn_app (goodIn_of _ (by decide +kernel)) ggX8_lookFrom_X4_numberOf
set_option maxRecDepth 20000 in
theorem ggX8_lookFrom_X8_meet : GoodIn wsX8_lookFrom wsX8_meet := goodIn_r _ [28, 6, 3, 9, 29, 10, 8, 95, 96, 97, 98, 99, 100, 101, 102, 103, 104, 105, 106, 107] (by decide +kernel) (by decide +kernel)
set_option maxRecDepth 20000 in
theorem gX8_lookFrom_X8_meet : GoodIn wsX8_lookFrom (wsV RX8 67 RX8 yX8_meet wsX8_meet) := goodIn_app (goodIn_of _ (by decide +kernel)) ggX8_lookFrom_X8_meet
set_option maxRecDepth 20000 in
theorem ggX8_lookFrom_X8_goOnFrom : GoodIn wsX8_lookFrom wsX8_goOnFrom := goodIn_r _ [33, 4, 34, 35, 36, 7, 15, 16, 17, 18, 19, 20, 21, 22, 23, 37, 38, 39, 40, 41, 42, 43, 44, 45, 46, 47, 48, 49, 13, 50, 51, 52, 53, 54, 55, 56, 57, 58, 59, 60, 61, 62, 63, 64, 65, 66, 67, 68, 69, 70, 71, 72, 73, 74, 75, 76, 77, 27, 78, 79, 80, 81, 82, 83, 84, 85, 86, 87, 88, 89, 90, 3, 29, 9, 91, 92, 93, 94, 24, 25, 26, 28, 6, 10, 8, 95, 96, 97, 98, 99, 100, 101, 102, 103, 104, 105, 106, 107, 113, 114, 115, 116, 117, 118, 108, 109, 110, 111, 112, 119, 120] (by decide +kernel) (by decide +kernel)
set_option maxRecDepth 20000 in
theorem gX8_lookFrom_X8_goOnFrom : GoodIn wsX8_lookFrom (wsV RX8 71 RX8 yX8_goOnFrom wsX8_goOnFrom) := goodIn_app (goodIn_of _ (by decide +kernel)) ggX8_lookFrom_X8_goOnFrom
theorem dX8_lookFrom_0 : decode cX8_lookFrom 0 = .ok (.aload_n 0, 1) := by decide +kernel
theorem dX8_lookFrom_1 : decode cX8_lookFrom 1 = .ok (.getfield 37, 3) := by decide +kernel
theorem dX8_lookFrom_4 : decode cX8_lookFrom 4 = .ok (.ifCond .eq 12, 3) := by decide +kernel
theorem dX8_lookFrom_7 : decode cX8_lookFrom 7 = .ok (.aload_n 0, 1) := by decide +kernel
theorem dX8_lookFrom_8 : decode cX8_lookFrom 8 = .ok (.getfield 41, 3) := by decide +kernel
theorem dX8_lookFrom_11 : decode cX8_lookFrom 11 = .ok (.iload_n 1, 1) := by decide +kernel
theorem dX8_lookFrom_12 : decode cX8_lookFrom 12 = .ok (.if_icmp .ne 4, 3) := by decide +kernel
theorem dX8_lookFrom_15 : decode cX8_lookFrom 15 = .ok (.return_, 1) := by decide +kernel
theorem dX8_lookFrom_16 : decode cX8_lookFrom 16 = .ok (.aload_n 0, 1) := by decide +kernel
theorem dX8_lookFrom_17 : decode cX8_lookFrom 17 = .ok (.getfield 15, 3) := by decide +kernel
theorem dX8_lookFrom_20 : decode cX8_lookFrom 20 = .ok (.aload_n 0, 1) := by decide +kernel
theorem dX8_lookFrom_21 : decode cX8_lookFrom 21 = .ok (.getfield 33, 3) := by decide +kernel
theorem dX8_lookFrom_24 : decode cX8_lookFrom 24 = .ok (.getfield 45, 3) := by decide +kernel
theorem dX8_lookFrom_27 : decode cX8_lookFrom 27 = .ok (.iconst (-1), 1) := by decide +kernel
theorem dX8_lookFrom_28 : decode cX8_lookFrom 28 = .ok (.invokestatic 50, 3) := by decide +kernel
theorem dX8_lookFrom_31 : decode cX8_lookFrom 31 = .ok (.aload_n 0, 1) := by decide +kernel
theorem dX8_lookFrom_32 : decode cX8_lookFrom 32 = .ok (.iconst 0, 1) := by decide +kernel
theorem dX8_lookFrom_33 : decode cX8_lookFrom 33 = .ok (.putfield 54, 3) := by decide +kernel
theorem dX8_lookFrom_36 : decode cX8_lookFrom 36 = .ok (.aload_n 0, 1) := by decide +kernel
theorem dX8_lookFrom_37 : decode cX8_lookFrom 37 = .ok (.iconst 0, 1) := by decide +kernel
theorem dX8_lookFrom_38 : decode cX8_lookFrom 38 = .ok (.putfield 57, 3) := by decide +kernel
theorem dX8_lookFrom_41 : decode cX8_lookFrom 41 = .ok (.aload_n 0, 1) := by decide +kernel
theorem dX8_lookFrom_42 : decode cX8_lookFrom 42 = .ok (.iconst 0, 1) := by decide +kernel
theorem dX8_lookFrom_43 : decode cX8_lookFrom 43 = .ok (.putfield 60, 3) := by decide +kernel
theorem dX8_lookFrom_46 : decode cX8_lookFrom 46 = .ok (.aload_n 0, 1) := by decide +kernel
theorem dX8_lookFrom_47 : decode cX8_lookFrom 47 = .ok (.getfield 33, 3) := by decide +kernel
theorem dX8_lookFrom_50 : decode cX8_lookFrom 50 = .ok (.iload_n 1, 1) := by decide +kernel
theorem dX8_lookFrom_51 : decode cX8_lookFrom 51 = .ok (.invokevirtual 63, 3) := by decide +kernel
theorem dX8_lookFrom_54 : decode cX8_lookFrom 54 = .ok (.istore_n 2, 1) := by decide +kernel
theorem dX8_lookFrom_55 : decode cX8_lookFrom 55 = .ok (.iload_n 2, 1) := by decide +kernel
theorem dX8_lookFrom_56 : decode cX8_lookFrom 56 = .ok (.iconst (-1), 1) := by decide +kernel
theorem dX8_lookFrom_57 : decode cX8_lookFrom 57 = .ok (.if_icmp .eq 18, 3) := by decide +kernel
theorem dX8_lookFrom_60 : decode cX8_lookFrom 60 = .ok (.aload_n 0, 1) := by decide +kernel
theorem dX8_lookFrom_61 : decode cX8_lookFrom 61 = .ok (.iload_n 1, 1) := by decide +kernel
theorem dX8_lookFrom_62 : decode cX8_lookFrom 62 = .ok (.iload_n 2, 1) := by decide +kernel
theorem dX8_lookFrom_63 : decode cX8_lookFrom 63 = .ok (.iconst 0, 1) := by decide +kernel
theorem dX8_lookFrom_64 : decode cX8_lookFrom 64 = .ok (.iconst (-1), 1) := by decide +kernel
theorem dX8_lookFrom_65 : decode cX8_lookFrom 65 = .ok (.invokevirtual 67, 3) := by decide +kernel
theorem dX8_lookFrom_68 : decode cX8_lookFrom 68 = .ok (.aload_n 0, 1) := by decide +kernel
theorem dX8_lookFrom_69 : decode cX8_lookFrom 69 = .ok (.getfield 18, 3) := by decide +kernel
theorem dX8_lookFrom_72 : decode cX8_lookFrom 72 = .ok (.iload_n 2, 1) := by decide +kernel
theorem dX8_lookFrom_73 : decode cX8_lookFrom 73 = .ok (.lconst 1, 1) := by decide +kernel
theorem dX8_lookFrom_74 : decode cX8_lookFrom 74 = .ok (.lastore, 1) := by decide +kernel
theorem dX8_lookFrom_75 : decode cX8_lookFrom 75 = .ok (.iconst 0, 1) := by decide +kernel
theorem dX8_lookFrom_76 : decode cX8_lookFrom 76 = .ok (.istore_n 3, 1) := by decide +kernel
theorem dX8_lookFrom_77 : decode cX8_lookFrom 77 = .ok (.iload_n 3, 1) := by decide +kernel
theorem dX8_lookFrom_78 : decode cX8_lookFrom 78 = .ok (.aload_n 0, 1) := by decide +kernel
theorem dX8_lookFrom_79 : decode cX8_lookFrom 79 = .ok (.getfield 54, 3) := by decide +kernel
theorem dX8_lookFrom_82 : decode cX8_lookFrom 82 = .ok (.if_icmp .ge 26, 3) := by decide +kernel
theorem dX8_lookFrom_85 : decode cX8_lookFrom 85 = .ok (.iload_n 3, 1) := by decide +kernel
theorem dX8_lookFrom_86 : decode cX8_lookFrom 86 = .ok (.sipush 7560, 3) := by decide +kernel
theorem dX8_lookFrom_89 : decode cX8_lookFrom 89 = .ok (.if_icmp .ge 19, 3) := by decide +kernel
theorem dX8_lookFrom_92 : decode cX8_lookFrom 92 = .ok (.aload_n 0, 1) := by decide +kernel
theorem dX8_lookFrom_93 : decode cX8_lookFrom 93 = .ok (.aload_n 0, 1) := by decide +kernel
theorem dX8_lookFrom_94 : decode cX8_lookFrom 94 = .ok (.getfield 9, 3) := by decide +kernel
theorem dX8_lookFrom_97 : decode cX8_lookFrom 97 = .ok (.iload_n 3, 1) := by decide +kernel
theorem dX8_lookFrom_98 : decode cX8_lookFrom 98 = .ok (.iaload, 1) := by decide +kernel
theorem dX8_lookFrom_99 : decode cX8_lookFrom 99 = .ok (.invokevirtual 71, 3) := by decide +kernel
theorem dX8_lookFrom_102 : decode cX8_lookFrom 102 = .ok (.iinc 3 1, 3) := by decide +kernel
theorem dX8_lookFrom_105 : decode cX8_lookFrom 105 = .ok (.goto (-28), 3) := by decide +kernel
theorem dX8_lookFrom_108 : decode cX8_lookFrom 108 = .ok (.aload_n 0, 1) := by decide +kernel
theorem dX8_lookFrom_109 : decode cX8_lookFrom 109 = .ok (.iload_n 1, 1) := by decide +kernel
theorem dX8_lookFrom_110 : decode cX8_lookFrom 110 = .ok (.putfield 41, 3) := by decide +kernel
theorem dX8_lookFrom_113 : decode cX8_lookFrom 113 = .ok (.aload_n 0, 1) := by decide +kernel
theorem dX8_lookFrom_114 : decode cX8_lookFrom 114 = .ok (.iconst 1, 1) := by decide +kernel
theorem dX8_lookFrom_115 : decode cX8_lookFrom 115 = .ok (.putfield 37, 3) := by decide +kernel
theorem dX8_lookFrom_118 : decode cX8_lookFrom 118 = .ok (.aload_n 0, 1) := by decide +kernel
theorem dX8_lookFrom_119 : decode cX8_lookFrom 119 = .ok (.dup, 1) := by decide +kernel
theorem dX8_lookFrom_120 : decode cX8_lookFrom 120 = .ok (.getfield 75, 3) := by decide +kernel
theorem dX8_lookFrom_123 : decode cX8_lookFrom 123 = .ok (.iconst 1, 1) := by decide +kernel
theorem dX8_lookFrom_124 : decode cX8_lookFrom 124 = .ok (.iadd, 1) := by decide +kernel
theorem dX8_lookFrom_125 : decode cX8_lookFrom 125 = .ok (.putfield 75, 3) := by decide +kernel
theorem dX8_lookFrom_128 : decode cX8_lookFrom 128 = .ok (.return_, 1) := by decide +kernel
set_option maxRecDepth 20000 in
theorem ggX8_goOnFrom_X4_numberOf : GoodIn wsX8_goOnFrom wsX4_numberOf := goodIn_r _ [10, 11, 12, 13, 14, 104, 105, 106, 107, 108] (by decide +kernel) (by decide +kernel)
set_option maxRecDepth 20000 in
theorem gX8_goOnFrom_X4_numberOf : GoodIn wsX8_goOnFrom (wsV RX8 63 RX4 yX4_numberOf wsX4_numberOf) := goodIn_app (goodIn_of _ (by decide +kernel)) ggX8_goOnFrom_X4_numberOf
set_option maxRecDepth 20000 in
theorem ggX8_goOnFrom_X3_find : GoodIn wsX8_goOnFrom wsX3_find := goodIn_r _ [19, 20, 21, 22, 23, 24, 25, 26, 27, 28, 29, 30, 31, 32, 18, 33, 34, 35, 36, 37, 38, 39, 40, 41, 42, 43, 44, 45, 46, 47, 48, 49, 109, 110, 98, 99, 100, 101, 102, 103] (by decide +kernel) (by decide +kernel)
set_option maxRecDepth 20000 in
theorem gX8_goOnFrom_X3_find : GoodIn wsX8_goOnFrom (wsV RX8 78 RX3 yX3_find wsX3_find) := goodIn_app (goodIn_of _ (by decide +kernel)) ggX8_goOnFrom_X3_find
set_option maxRecDepth 20000 in
theorem ggX8_goOnFrom_X3_targetsOf : GoodIn wsX8_goOnFrom wsX3_targetsOf := goodIn_r _ [53, 20, 109, 110] (by decide +kernel) (by decide +kernel)
set_option maxRecDepth 20000 in
theorem gX8_goOnFrom_X3_targetsOf : GoodIn wsX8_goOnFrom (wsV RX8 88 RX3 yX3_targetsOf wsX3_targetsOf) := goodIn_app (goodIn_of _ (by decide +kernel)) ggX8_goOnFrom_X3_targetsOf
set_option maxRecDepth 20000 in
theorem ggX8_goOnFrom_X8_goOnBy : GoodIn wsX8_goOnFrom wsX8_goOnBy := goodIn_r _ [58, 3, 4, 2, 59, 60, 61, 18, 62, 63, 51, 52, 53, 20, 64, 28, 65, 66, 27, 29, 67, 68, 69, 57, 70, 1, 71, 72, 73, 74, 75, 76, 77, 6, 7, 8, 9, 10, 11, 12, 13, 14, 78, 79, 80, 81, 82, 83, 84, 85, 86, 87, 88, 89, 90, 91, 92, 93, 94, 95, 96, 97, 98, 99, 100, 101, 102, 103, 109, 110, 104, 105, 106, 107, 108] (by decide +kernel) (by decide +kernel)
set_option maxRecDepth 20000 in
theorem gX8_goOnFrom_X8_goOnBy : GoodIn wsX8_goOnFrom (wsV RX8 91 RX8 yX8_goOnBy wsX8_goOnBy) := goodIn_app (goodIn_of _ (by decide +kernel)) ggX8_goOnFrom_X8_goOnBy
theorem dX8_goOnFrom_0 : decode cX8_goOnFrom 0 = .ok (.aload_n 0, 1) := by decide +kernel
theorem dX8_goOnFrom_1 : decode cX8_goOnFrom 1 = .ok (.getfield 33, 3) := by decide +kernel
theorem dX8_goOnFrom_4 : decode cX8_goOnFrom 4 = .ok (.iload_n 1, 1) := by decide +kernel
theorem dX8_goOnFrom_5 : decode cX8_goOnFrom 5 = .ok (.invokevirtual 63, 3) := by decide +kernel
theorem dX8_goOnFrom_8 : decode cX8_goOnFrom 8 = .ok (.istore_n 2, 1) := by decide +kernel
theorem dX8_goOnFrom_9 : decode cX8_goOnFrom 9 = .ok (.aload_n 0, 1) := by decide +kernel
theorem dX8_goOnFrom_10 : decode cX8_goOnFrom 10 = .ok (.getfield 29, 3) := by decide +kernel
theorem dX8_goOnFrom_13 : decode cX8_goOnFrom 13 = .ok (.iload_n 1, 1) := by decide +kernel
theorem dX8_goOnFrom_14 : decode cX8_goOnFrom 14 = .ok (.invokevirtual 78, 3) := by decide +kernel
theorem dX8_goOnFrom_17 : decode cX8_goOnFrom 17 = .ok (.iconst 0, 1) := by decide +kernel
theorem dX8_goOnFrom_18 : decode cX8_goOnFrom 18 = .ok (.istore_n 3, 1) := by decide +kernel
theorem dX8_goOnFrom_19 : decode cX8_goOnFrom 19 = .ok (.iconst 0, 1) := by decide +kernel
theorem dX8_goOnFrom_20 : decode cX8_goOnFrom 20 = .ok (.istore 4, 2) := by decide +kernel
theorem dX8_goOnFrom_22 : decode cX8_goOnFrom 22 = .ok (.iload 4, 2) := by decide +kernel
theorem dX8_goOnFrom_24 : decode cX8_goOnFrom 24 = .ok (.aload_n 0, 1) := by decide +kernel
theorem dX8_goOnFrom_25 : decode cX8_goOnFrom 25 = .ok (.getfield 25, 3) := by decide +kernel
theorem dX8_goOnFrom_28 : decode cX8_goOnFrom 28 = .ok (.getfield 83, 3) := by decide +kernel
theorem dX8_goOnFrom_31 : decode cX8_goOnFrom 31 = .ok (.if_icmp .ge 31, 3) := by decide +kernel
theorem dX8_goOnFrom_34 : decode cX8_goOnFrom 34 = .ok (.aload_n 0, 1) := by decide +kernel
theorem dX8_goOnFrom_35 : decode cX8_goOnFrom 35 = .ok (.getfield 29, 3) := by decide +kernel
theorem dX8_goOnFrom_38 : decode cX8_goOnFrom 38 = .ok (.iload 4, 2) := by decide +kernel
theorem dX8_goOnFrom_40 : decode cX8_goOnFrom 40 = .ok (.invokevirtual 88, 3) := by decide +kernel
theorem dX8_goOnFrom_43 : decode cX8_goOnFrom 43 = .ok (.ifCond .eq 13, 3) := by decide +kernel
theorem dX8_goOnFrom_46 : decode cX8_goOnFrom 46 = .ok (.iconst 1, 1) := by decide +kernel
theorem dX8_goOnFrom_47 : decode cX8_goOnFrom 47 = .ok (.istore_n 3, 1) := by decide +kernel
theorem dX8_goOnFrom_48 : decode cX8_goOnFrom 48 = .ok (.aload_n 0, 1) := by decide +kernel
theorem dX8_goOnFrom_49 : decode cX8_goOnFrom 49 = .ok (.iload_n 1, 1) := by decide +kernel
theorem dX8_goOnFrom_50 : decode cX8_goOnFrom 50 = .ok (.iload_n 2, 1) := by decide +kernel
theorem dX8_goOnFrom_51 : decode cX8_goOnFrom 51 = .ok (.iload 4, 2) := by decide +kernel
theorem dX8_goOnFrom_53 : decode cX8_goOnFrom 53 = .ok (.invokevirtual 91, 3) := by decide +kernel
theorem dX8_goOnFrom_56 : decode cX8_goOnFrom 56 = .ok (.iinc 4 1, 3) := by decide +kernel
theorem dX8_goOnFrom_59 : decode cX8_goOnFrom 59 = .ok (.goto (-37), 3) := by decide +kernel
theorem dX8_goOnFrom_62 : decode cX8_goOnFrom 62 = .ok (.iload_n 3, 1) := by decide +kernel
theorem dX8_goOnFrom_63 : decode cX8_goOnFrom 63 = .ok (.ifCond .ne 13, 3) := by decide +kernel
theorem dX8_goOnFrom_66 : decode cX8_goOnFrom 66 = .ok (.aload_n 0, 1) := by decide +kernel
theorem dX8_goOnFrom_67 : decode cX8_goOnFrom 67 = .ok (.dup, 1) := by decide +kernel
theorem dX8_goOnFrom_68 : decode cX8_goOnFrom 68 = .ok (.getfield 57, 3) := by decide +kernel
theorem dX8_goOnFrom_71 : decode cX8_goOnFrom 71 = .ok (.iconst 1, 1) := by decide +kernel
theorem dX8_goOnFrom_72 : decode cX8_goOnFrom 72 = .ok (.iadd, 1) := by decide +kernel
theorem dX8_goOnFrom_73 : decode cX8_goOnFrom 73 = .ok (.putfield 57, 3) := by decide +kernel
theorem dX8_goOnFrom_76 : decode cX8_goOnFrom 76 = .ok (.return_, 1) := by decide +kernel
set_option maxRecDepth 20000 in
theorem ggX8_goOnBy_X3_has : GoodIn wsX8_goOnBy wsX3_has := goodIn_r _ [8, 9, 10, 11, 7, 12, 13, 68, 69] (by decide +kernel) (by decide +kernel)
set_option maxRecDepth 20000 in
theorem gX8_goOnBy_X3_has : GoodIn wsX8_goOnBy (wsV RX8 95 RX3 yX3_has wsX3_has) := goodIn_app (goodIn_of _ (by decide +kernel)) ggX8_goOnBy_X3_has
set_option maxRecDepth 20000 in
theorem ggX8_goOnBy_X9_afterMove : GoodIn wsX8_goOnBy wsX9_afterMove := goodIn_r _ [16, 17, 18, 15, 19] (by decide +kernel) (by decide +kernel)
set_option maxRecDepth 20000 in
theorem gX8_goOnBy_X9_afterMove_n99 : GoodIn wsX8_goOnBy (wsX9_afterMove) := ggX8_goOnBy_X9_afterMove
set_option maxRecDepth 20000 in
theorem ggX8_goOnBy_X8_join : GoodIn wsX8_goOnBy wsX8_join := goodIn_r _ [24, 25, 26, 27, 28, 29, 30, 31, 32, 33, 34, 35, 36, 37, 38, 39, 40, 41, 42, 43, 44, 23, 45, 46, 47, 48, 49, 50, 51, 52, 53, 54, 55, 56, 57, 58, 59, 60, 61, 70, 71, 72, 73, 74] (by decide +kernel) (by decide +kernel)
set_option maxRecDepth 20000 in
theorem gX8_goOnBy_X8_join : GoodIn wsX8_goOnBy (wsV RX8 103 RX8 yX8_join wsX8_join) := goodIn_app (goodIn_of _ (by decide +kernel)) ggX8_goOnBy_X8_join
theorem dX8_goOnBy_0 : decode cX8_goOnBy 0 = .ok (.iconst 0, 1) := by decide +kernel
theorem dX8_goOnBy_1 : decode cX8_goOnBy 1 = .ok (.istore 4, 2) := by decide +kernel
theorem dX8_goOnBy_3 : decode cX8_goOnBy 3 = .ok (.iload 4, 2) := by decide +kernel
theorem dX8_goOnBy_5 : decode cX8_goOnBy 5 = .ok (.aload_n 0, 1) := by decide +kernel
theorem dX8_goOnBy_6 : decode cX8_goOnBy 6 = .ok (.getfield 25, 3) := by decide +kernel
theorem dX8_goOnBy_9 : decode cX8_goOnBy 9 = .ok (.getfield 83, 3) := by decide +kernel
theorem dX8_goOnBy_12 : decode cX8_goOnBy 12 = .ok (.if_icmp .ge 41, 3) := by decide +kernel
theorem dX8_goOnBy_15 : decode cX8_goOnBy 15 = .ok (.aload_n 0, 1) := by decide +kernel
theorem dX8_goOnBy_16 : decode cX8_goOnBy 16 = .ok (.getfield 29, 3) := by decide +kernel
theorem dX8_goOnBy_19 : decode cX8_goOnBy 19 = .ok (.iload_n 3, 1) := by decide +kernel
theorem dX8_goOnBy_20 : decode cX8_goOnBy 20 = .ok (.iload 4, 2) := by decide +kernel
theorem dX8_goOnBy_22 : decode cX8_goOnBy 22 = .ok (.invokevirtual 95, 3) := by decide +kernel
theorem dX8_goOnBy_25 : decode cX8_goOnBy 25 = .ok (.ifCond .eq 22, 3) := by decide +kernel
theorem dX8_goOnBy_28 : decode cX8_goOnBy 28 = .ok (.aload_n 0, 1) := by decide +kernel
theorem dX8_goOnBy_29 : decode cX8_goOnBy 29 = .ok (.iload_n 2, 1) := by decide +kernel
theorem dX8_goOnBy_30 : decode cX8_goOnBy 30 = .ok (.iload_n 1, 1) := by decide +kernel
theorem dX8_goOnBy_31 : decode cX8_goOnBy 31 = .ok (.iload_n 3, 1) := by decide +kernel
theorem dX8_goOnBy_32 : decode cX8_goOnBy 32 = .ok (.iload 4, 2) := by decide +kernel
theorem dX8_goOnBy_34 : decode cX8_goOnBy 34 = .ok (.invokestatic 99, 3) := by decide +kernel
theorem dX8_goOnBy_37 : decode cX8_goOnBy 37 = .ok (.bipush 16, 2) := by decide +kernel
theorem dX8_goOnBy_39 : decode cX8_goOnBy 39 = .ok (.iload_n 3, 1) := by decide +kernel
theorem dX8_goOnBy_40 : decode cX8_goOnBy 40 = .ok (.imul, 1) := by decide +kernel
theorem dX8_goOnBy_41 : decode cX8_goOnBy 41 = .ok (.iload 4, 2) := by decide +kernel
theorem dX8_goOnBy_43 : decode cX8_goOnBy 43 = .ok (.iadd, 1) := by decide +kernel
theorem dX8_goOnBy_44 : decode cX8_goOnBy 44 = .ok (.invokevirtual 103, 3) := by decide +kernel
theorem dX8_goOnBy_47 : decode cX8_goOnBy 47 = .ok (.iinc 4 1, 3) := by decide +kernel
theorem dX8_goOnBy_50 : decode cX8_goOnBy 50 = .ok (.goto (-47), 3) := by decide +kernel
theorem dX8_goOnBy_53 : decode cX8_goOnBy 53 = .ok (.return_, 1) := by decide +kernel
set_option maxRecDepth 20000 in
theorem ggX8_join_X4_numberOf : GoodIn wsX8_join wsX4_numberOf := goodIn_r _ [13, 14, 15, 16, 17, 39, 40, 41, 42, 43] (by decide +kernel) (by decide +kernel)
set_option maxRecDepth 20000 in
theorem gX8_join_X4_numberOf : GoodIn wsX8_join (wsV RX8 63 RX4 yX4_numberOf wsX4_numberOf) := goodIn_app (goodIn_of _ (by decide +kernel)) ggX8_join_X4_numberOf
set_option maxRecDepth 20000 in
theorem ggX8_join_X8_meet : GoodIn wsX8_join wsX8_meet := goodIn_r _ [22, 23, 2, 4, 3, 24, 25, 26, 27, 28, 29, 30, 31, 32, 33, 34, 35, 36, 37, 38] (by decide +kernel) (by decide +kernel)
set_option maxRecDepth 20000 in
theorem gX8_join_X8_meet : GoodIn wsX8_join (wsV RX8 67 RX8 yX8_meet wsX8_meet) := goodIn_app (goodIn_of _ (by decide +kernel)) ggX8_join_X8_meet
theorem dX8_join_0 : decode cX8_join 0 = .ok (.aload_n 0, 1) := by decide +kernel
theorem dX8_join_1 : decode cX8_join 1 = .ok (.getfield 33, 3) := by decide +kernel
theorem dX8_join_4 : decode cX8_join 4 = .ok (.iload_n 2, 1) := by decide +kernel
theorem dX8_join_5 : decode cX8_join 5 = .ok (.invokevirtual 63, 3) := by decide +kernel
theorem dX8_join_8 : decode cX8_join 8 = .ok (.istore 4, 2) := by decide +kernel
theorem dX8_join_10 : decode cX8_join 10 = .ok (.iload_n 1, 1) := by decide +kernel
theorem dX8_join_11 : decode cX8_join 11 = .ok (.iconst (-1), 1) := by decide +kernel
theorem dX8_join_12 : decode cX8_join 12 = .ok (.if_icmp .eq 9, 3) := by decide +kernel
theorem dX8_join_15 : decode cX8_join 15 = .ok (.iload 4, 2) := by decide +kernel
theorem dX8_join_17 : decode cX8_join 17 = .ok (.iconst (-1), 1) := by decide +kernel
theorem dX8_join_18 : decode cX8_join 18 = .ok (.if_icmp .ne 4, 3) := by decide +kernel
