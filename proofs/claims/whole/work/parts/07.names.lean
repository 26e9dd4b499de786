theorem dX9_luck_69 : decode cX9_luck 69 = .ok (.getfield 74, 3) := by decide +kernel
theorem dX9_luck_72 : decode cX9_luck 72 = .ok (.getfield 123, 3) := by decide +kernel
theorem dX9_luck_75 : decode cX9_luck 75 = .ok (.iload_n 1, 1) := by decide +kernel
theorem dX9_luck_76 : decode cX9_luck 76 = .ok (.invokevirtual 237, 3) := by decide +kernel
theorem dX9_luck_79 : decode cX9_luck 79 = .ok (.istore 4, 2) := by decide +kernel
theorem dX9_luck_81 : decode cX9_luck 81 = .ok (.iload 4, 2) := by decide +kernel
theorem dX9_luck_83 : decode cX9_luck 83 = .ok (.iload_n 3, 1) := by decide +kernel
theorem dX9_luck_84 : decode cX9_luck 84 = .ok (.invokestatic 241, 3) := by decide +kernel
theorem dX9_luck_87 : decode cX9_luck 87 = .ok (.istore 5, 2) := by decide +kernel
theorem dX9_luck_89 : decode cX9_luck 89 = .ok (.iload 5, 2) := by decide +kernel
theorem dX9_luck_91 : decode cX9_luck 91 = .ok (.ifCond .ne 5, 3) := by decide +kernel
theorem dX9_luck_94 : decode cX9_luck 94 = .ok (.iconst 0, 1) := by decide +kernel
theorem dX9_luck_95 : decode cX9_luck 95 = .ok (.ireturn, 1) := by decide +kernel
theorem dX9_luck_96 : decode cX9_luck 96 = .ok (.iload_n 2, 1) := by decide +kernel
theorem dX9_luck_97 : decode cX9_luck 97 = .ok (.ifCond .ne 11, 3) := by decide +kernel
theorem dX9_luck_100 : decode cX9_luck 100 = .ok (.iload 4, 2) := by decide +kernel
theorem dX9_luck_102 : decode cX9_luck 102 = .ok (.iload 5, 2) := by decide +kernel
theorem dX9_luck_104 : decode cX9_luck 104 = .ok (.idiv, 1) := by decide +kernel
theorem dX9_luck_105 : decode cX9_luck 105 = .ok (.goto 7, 3) := by decide +kernel
theorem dX9_luck_108 : decode cX9_luck 108 = .ok (.iload_n 3, 1) := by decide +kernel
theorem dX9_luck_109 : decode cX9_luck 109 = .ok (.iload 5, 2) := by decide +kernel
theorem dX9_luck_111 : decode cX9_luck 111 = .ok (.idiv, 1) := by decide +kernel
theorem dX9_luck_112 : decode cX9_luck 112 = .ok (.ireturn, 1) := by decide +kernel
set_option maxRecDepth 20000 in
theorem ggX9_child_X9_noStones : GoodIn wsX9_child wsX9_noStones := goodIn_r _ [11, 12, 13, 92, 93, 94, 95, 96, 97, 98, 99, 100, 101, 102, 103, 104, 105, 119, 120, 121, 122, 123, 124] (by decide +kernel) (by decide +kernel)
set_option maxRecDepth 20000 in
theorem gX9_child_X9_noStones : GoodIn wsX9_child (wsV RX9 142 RX9 yX9_noStones wsX9_noStones) := goodIn_app (goodIn_of _ (by decide +kernel)) ggX9_child_X9_noStones
set_option maxRecDepth 20000 in
theorem ggX9_child_X9_frogsOf : GoodIn wsX9_child wsX9_frogsOf := goodIn_r _ [16, 17, 18, 10, 19, 20, 21, 22] (by decide +kernel) (by decide +kernel)
set_option maxRecDepth 20000 in
theorem gX9_child_X9_frogsOf : GoodIn wsX9_child (va_wsS RX9 152 yX9_frogsOf wsX9_frogsOf) := goodIn_app (goodIn_of _ (by decide +kernel)) ggX9_child_X9_frogsOf
set_option maxRecDepth 20000 in
theorem ggX9_child_X0_play : GoodIn wsX9_child wsX0_play := goodIn_r _ [27, 28, 29, 30, 31, 32, 15, 10, 16, 17, 18, 19, 20, 21, 22, 33, 34, 26, 35, 36, 37, 38, 39, 40, 41, 42, 43, 44, 45, 46, 47, 48, 49, 50, 51, 52, 53, 54, 55, 56, 57, 58, 59, 60, 61, 62, 63, 64, 65, 66, 67, 68, 69, 70, 71, 72, 73, 74, 75, 76, 77, 78, 79, 80, 81, 82, 83, 84, 85, 86, 87, 88, 110, 111, 112, 113, 114, 115, 116, 117, 118, 125, 126, 119, 120, 121, 122, 123, 124] (by decide +kernel) (by decide +kernel)
set_option maxRecDepth 20000 in
theorem gX9_child_X0_play : GoodIn wsX9_child (wsV RX9 244 RX0 yX0_play wsX0_play) := goodIn_app (goodIn_of _ (by decide +kernel)) ggX9_child_X0_play
set_option maxRecDepth 20000 in
theorem ggX9_child_X9_kindToldOf : GoodIn wsX9_child wsX9_kindToldOf := goodIn_r _ [91, 20, 21, 10, 22] (by decide +kernel) (by decide +kernel)
set_option maxRecDepth 20000 in
theorem gX9_child_X9_kindToldOf : GoodIn wsX9_child (va_wsS RX9 160 yX9_kindToldOf wsX9_kindToldOf) := goodIn_app (goodIn_of _ (by decide +kernel)) ggX9_child_X9_kindToldOf
theorem dX9_child_0 : decode cX9_child 0 = .ok (.aload_n 0, 1) := by decide +kernel
theorem dX9_child_1 : decode cX9_child 1 = .ok (.invokevirtual 142, 3) := by decide +kernel
theorem dX9_child_4 : decode cX9_child 4 = .ok (.ifCond .ne 16, 3) := by decide +kernel
theorem dX9_child_7 : decode cX9_child 7 = .ok (.aload_n 0, 1) := by decide +kernel
theorem dX9_child_8 : decode cX9_child 8 = .ok (.getfield 74, 3) := by decide +kernel
theorem dX9_child_11 : decode cX9_child 11 = .ok (.getfield 123, 3) := by decide +kernel
theorem dX9_child_14 : decode cX9_child 14 = .ok (.invokestatic 152, 3) := by decide +kernel
theorem dX9_child_17 : decode cX9_child 17 = .ok (.ifCond .ne 6, 3) := by decide +kernel
theorem dX9_child_20 : decode cX9_child 20 = .ok (.bipush (-103), 2) := by decide +kernel
theorem dX9_child_22 : decode cX9_child 22 = .ok (.ireturn, 1) := by decide +kernel
theorem dX9_child_23 : decode cX9_child 23 = .ok (.iload_n 1, 1) := by decide +kernel
theorem dX9_child_24 : decode cX9_child 24 = .ok (.iconst 1, 1) := by decide +kernel
theorem dX9_child_25 : decode cX9_child 25 = .ok (.if_icmp .lt 23, 3) := by decide +kernel
theorem dX9_child_28 : decode cX9_child 28 = .ok (.iload_n 1, 1) := by decide +kernel
theorem dX9_child_29 : decode cX9_child 29 = .ok (.bipush 99, 2) := by decide +kernel
theorem dX9_child_31 : decode cX9_child 31 = .ok (.if_icmp .gt 17, 3) := by decide +kernel
theorem dX9_child_34 : decode cX9_child 34 = .ok (.iload_n 2, 1) := by decide +kernel
theorem dX9_child_35 : decode cX9_child 35 = .ok (.ifCond .lt 13, 3) := by decide +kernel
theorem dX9_child_38 : decode cX9_child 38 = .ok (.iload_n 3, 1) := by decide +kernel
theorem dX9_child_39 : decode cX9_child 39 = .ok (.ifCond .lt 9, 3) := by decide +kernel
theorem dX9_child_42 : decode cX9_child 42 = .ok (.iload_n 3, 1) := by decide +kernel
theorem dX9_child_43 : decode cX9_child 43 = .ok (.bipush 10, 2) := by decide +kernel
theorem dX9_child_45 : decode cX9_child 45 = .ok (.if_icmp .le 6, 3) := by decide +kernel
theorem dX9_child_48 : decode cX9_child 48 = .ok (.bipush (-102), 2) := by decide +kernel
theorem dX9_child_50 : decode cX9_child 50 = .ok (.ireturn, 1) := by decide +kernel
theorem dX9_child_51 : decode cX9_child 51 = .ok (.aload_n 0, 1) := by decide +kernel
theorem dX9_child_52 : decode cX9_child 52 = .ok (.getfield 67, 3) := by decide +kernel
theorem dX9_child_55 : decode cX9_child 55 = .ok (.aload_n 0, 1) := by decide +kernel
theorem dX9_child_56 : decode cX9_child 56 = .ok (.getfield 74, 3) := by decide +kernel
theorem dX9_child_59 : decode cX9_child 59 = .ok (.getfield 123, 3) := by decide +kernel
theorem dX9_child_62 : decode cX9_child 62 = .ok (.iload_n 1, 1) := by decide +kernel
theorem dX9_child_63 : decode cX9_child 63 = .ok (.iload_n 2, 1) := by decide +kernel
theorem dX9_child_64 : decode cX9_child 64 = .ok (.invokevirtual 244, 3) := by decide +kernel
theorem dX9_child_67 : decode cX9_child 67 = .ok (.iload_n 3, 1) := by decide +kernel
theorem dX9_child_68 : decode cX9_child 68 = .ok (.bipush 9, 2) := by decide +kernel
theorem dX9_child_70 : decode cX9_child 70 = .ok (.if_icmp .ne 11, 3) := by decide +kernel
theorem dX9_child_73 : decode cX9_child 73 = .ok (.aload_n 0, 1) := by decide +kernel
theorem dX9_child_74 : decode cX9_child 74 = .ok (.getfield 67, 3) := by decide +kernel
theorem dX9_child_77 : decode cX9_child 77 = .ok (.getfield 248, 3) := by decide +kernel
theorem dX9_child_80 : decode cX9_child 80 = .ok (.ireturn, 1) := by decide +kernel
theorem dX9_child_81 : decode cX9_child 81 = .ok (.iload_n 3, 1) := by decide +kernel
theorem dX9_child_82 : decode cX9_child 82 = .ok (.bipush 10, 2) := by decide +kernel
theorem dX9_child_84 : decode cX9_child 84 = .ok (.if_icmp .ne 11, 3) := by decide +kernel
theorem dX9_child_87 : decode cX9_child 87 = .ok (.aload_n 0, 1) := by decide +kernel
theorem dX9_child_88 : decode cX9_child 88 = .ok (.getfield 67, 3) := by decide +kernel
theorem dX9_child_91 : decode cX9_child 91 = .ok (.getfield 251, 3) := by decide +kernel
theorem dX9_child_94 : decode cX9_child 94 = .ok (.ireturn, 1) := by decide +kernel
theorem dX9_child_95 : decode cX9_child 95 = .ok (.aload_n 0, 1) := by decide +kernel
theorem dX9_child_96 : decode cX9_child 96 = .ok (.getfield 67, 3) := by decide +kernel
theorem dX9_child_99 : decode cX9_child 99 = .ok (.getfield 254, 3) := by decide +kernel
theorem dX9_child_102 : decode cX9_child 102 = .ok (.iload_n 3, 1) := by decide +kernel
theorem dX9_child_103 : decode cX9_child 103 = .ok (.invokestatic 160, 3) := by decide +kernel
theorem dX9_child_106 : decode cX9_child 106 = .ok (.ireturn, 1) := by decide +kernel
set_option maxRecDepth 20000 in
theorem ggX9_alike_X6_turned : GoodIn wsX9_alike wsX6_turned := goodIn_r _ [12, 13, 28, 29, 30, 31, 32, 33] (by decide +kernel) (by decide +kernel)
set_option maxRecDepth 20000 in
theorem gX9_alike_X6_turned : GoodIn wsX9_alike (wsV RX9 260 RX6 yX6_turned wsX6_turned) := goodIn_app (goodIn_of _ (by decide +kernel)) ggX9_alike_X6_turned
theorem dX9_alike_0 : decode cX9_alike 0 = .ok (.aload_n 0, 1) := by decide +kernel
theorem dX9_alike_1 : decode cX9_alike 1 = .ok (.getfield 136, 3) := by decide +kernel
theorem dX9_alike_4 : decode cX9_alike 4 = .ok (.ifCond .eq 13, 3) := by decide +kernel
theorem dX9_alike_7 : decode cX9_alike 7 = .ok (.aload_n 0, 1) := by decide +kernel
theorem dX9_alike_8 : decode cX9_alike 8 = .ok (.getfield 26, 3) := by decide +kernel
theorem dX9_alike_11 : decode cX9_alike 11 = .ok (.getfield 257, 3) := by decide +kernel
theorem dX9_alike_14 : decode cX9_alike 14 = .ok (.ifCond .ne 6, 3) := by decide +kernel
theorem dX9_alike_17 : decode cX9_alike 17 = .ok (.bipush (-103), 2) := by decide +kernel
theorem dX9_alike_19 : decode cX9_alike 19 = .ok (.ireturn, 1) := by decide +kernel
theorem dX9_alike_20 : decode cX9_alike 20 = .ok (.iconst 0, 1) := by decide +kernel
theorem dX9_alike_21 : decode cX9_alike 21 = .ok (.istore_n 1, 1) := by decide +kernel
theorem dX9_alike_22 : decode cX9_alike 22 = .ok (.iload_n 1, 1) := by decide +kernel
theorem dX9_alike_23 : decode cX9_alike 23 = .ok (.aload_n 0, 1) := by decide +kernel
theorem dX9_alike_24 : decode cX9_alike 24 = .ok (.getfield 26, 3) := by decide +kernel
theorem dX9_alike_27 : decode cX9_alike 27 = .ok (.getfield 114, 3) := by decide +kernel
theorem dX9_alike_30 : decode cX9_alike 30 = .ok (.if_icmp .ge 33, 3) := by decide +kernel
theorem dX9_alike_33 : decode cX9_alike 33 = .ok (.aload_n 0, 1) := by decide +kernel
theorem dX9_alike_34 : decode cX9_alike 34 = .ok (.getfield 26, 3) := by decide +kernel
theorem dX9_alike_37 : decode cX9_alike 37 = .ok (.aload_n 0, 1) := by decide +kernel
theorem dX9_alike_38 : decode cX9_alike 38 = .ok (.getfield 74, 3) := by decide +kernel
theorem dX9_alike_41 : decode cX9_alike 41 = .ok (.getfield 123, 3) := by decide +kernel
theorem dX9_alike_44 : decode cX9_alike 44 = .ok (.iload_n 1, 1) := by decide +kernel
theorem dX9_alike_45 : decode cX9_alike 45 = .ok (.invokevirtual 260, 3) := by decide +kernel
theorem dX9_alike_48 : decode cX9_alike 48 = .ok (.aload_n 0, 1) := by decide +kernel
theorem dX9_alike_49 : decode cX9_alike 49 = .ok (.getfield 149, 3) := by decide +kernel
theorem dX9_alike_52 : decode cX9_alike 52 = .ok (.if_icmp .ne 5, 3) := by decide +kernel
theorem dX9_alike_55 : decode cX9_alike 55 = .ok (.iload_n 1, 1) := by decide +kernel
theorem dX9_alike_56 : decode cX9_alike 56 = .ok (.ireturn, 1) := by decide +kernel
theorem dX9_alike_57 : decode cX9_alike 57 = .ok (.iinc 1 1, 3) := by decide +kernel
theorem dX9_alike_60 : decode cX9_alike 60 = .ok (.goto (-38), 3) := by decide +kernel
theorem dX9_alike_63 : decode cX9_alike 63 = .ok (.iconst (-1), 1) := by decide +kernel
theorem dX9_alike_64 : decode cX9_alike 64 = .ok (.ireturn, 1) := by decide +kernel
set_option maxRecDepth 20000 in
theorem ggX9_kinds_X9_noStones : GoodIn wsX9_kinds wsX9_noStones := goodIn_r _ [10, 1, 11, 126, 127, 128, 129, 130, 131, 132, 133, 134, 135, 136, 137, 138, 139, 140, 141, 142, 143, 144, 145] (by decide +kernel) (by decide +kernel)
set_option maxRecDepth 20000 in
theorem gX9_kinds_X9_noStones : GoodIn wsX9_kinds (wsV RX9 142 RX9 yX9_noStones wsX9_noStones) := goodIn_app (goodIn_of _ (by decide +kernel)) ggX9_kinds_X9_noStones
set_option maxRecDepth 20000 in
theorem ggX9_kinds_X8_lookFrom : GoodIn wsX9_kinds wsX8_lookFrom := goodIn_r _ [16, 17, 18, 19, 20, 21, 22, 23, 24, 25, 26, 27, 28, 9, 29, 30, 31, 32, 33, 34, 35, 36, 37, 38, 39, 40, 41, 15, 42, 43, 44, 45, 46, 47, 48, 49, 50, 51, 52, 53, 54, 55, 56, 57, 58, 59, 60, 61, 62, 63, 64, 65, 66, 67, 68, 69, 70, 71, 72, 73, 74, 75, 76, 77, 78, 79, 80, 81, 82, 83, 84, 85, 86, 87, 88, 89, 90, 91, 92, 93, 94, 95, 96, 97, 98, 99, 100, 101, 102, 103, 104, 105, 106, 107, 108, 150, 151, 152, 153, 154, 155, 156, 157, 158, 159, 160, 161, 162, 163, 164, 165, 166, 167, 140, 141, 142, 143, 144, 145, 168, 169] (by decide +kernel) (by decide +kernel)
set_option maxRecDepth 20000 in
theorem gX9_kinds_X8_lookFrom : GoodIn wsX9_kinds (wsV RX9 195 RX8 yX8_lookFrom wsX8_lookFrom) := goodIn_app (goodIn_of _ (by decide +kernel)) ggX9_kinds_X8_lookFrom
set_option maxRecDepth 20000 in
theorem ggX9_kinds_X8_unlikeOrders : GoodIn wsX9_kinds wsX8_unlikeOrders := goodIn_r _ [112, 22, 26, 113, 114, 115, 15, 116, 49, 50, 117, 118, 119, 74, 120, 121, 122, 123, 124, 125, 20, 19, 30, 31, 32, 33, 34, 35, 36, 37, 38, 150, 151, 152, 153, 154, 155, 156, 157, 158, 159, 160, 161, 162, 140, 141, 142, 143, 144, 145, 163, 164, 165, 166, 167] (by decide +kernel) (by decide +kernel)
set_option maxRecDepth 20000 in
theorem gX9_kinds_X8_unlikeOrders : GoodIn wsX9_kinds (wsV RX9 263 RX8 yX8_unlikeOrders wsX8_unlikeOrders) := goodIn_app (goodIn_of _ (by decide +kernel)) ggX9_kinds_X8_unlikeOrders
theorem dX9_kinds_0 : decode cX9_kinds 0 = .ok (.aload_n 0, 1) := by decide +kernel
theorem dX9_kinds_1 : decode cX9_kinds 1 = .ok (.invokevirtual 142, 3) := by decide +kernel
theorem dX9_kinds_4 : decode cX9_kinds 4 = .ok (.ifCond .ne 13, 3) := by decide +kernel
theorem dX9_kinds_7 : decode cX9_kinds 7 = .ok (.aload_n 0, 1) := by decide +kernel
theorem dX9_kinds_8 : decode cX9_kinds 8 = .ok (.getfield 26, 3) := by decide +kernel
theorem dX9_kinds_11 : decode cX9_kinds 11 = .ok (.getfield 257, 3) := by decide +kernel
theorem dX9_kinds_14 : decode cX9_kinds 14 = .ok (.ifCond .ne 6, 3) := by decide +kernel
theorem dX9_kinds_17 : decode cX9_kinds 17 = .ok (.bipush (-103), 2) := by decide +kernel
theorem dX9_kinds_19 : decode cX9_kinds 19 = .ok (.ireturn, 1) := by decide +kernel
theorem dX9_kinds_20 : decode cX9_kinds 20 = .ok (.aload_n 0, 1) := by decide +kernel
theorem dX9_kinds_21 : decode cX9_kinds 21 = .ok (.getfield 51, 3) := by decide +kernel
theorem dX9_kinds_24 : decode cX9_kinds 24 = .ok (.aload_n 0, 1) := by decide +kernel
theorem dX9_kinds_25 : decode cX9_kinds 25 = .ok (.getfield 74, 3) := by decide +kernel
theorem dX9_kinds_28 : decode cX9_kinds 28 = .ok (.getfield 123, 3) := by decide +kernel
theorem dX9_kinds_31 : decode cX9_kinds 31 = .ok (.invokevirtual 195, 3) := by decide +kernel
theorem dX9_kinds_34 : decode cX9_kinds 34 = .ok (.aload_n 0, 1) := by decide +kernel
theorem dX9_kinds_35 : decode cX9_kinds 35 = .ok (.getfield 51, 3) := by decide +kernel
theorem dX9_kinds_38 : decode cX9_kinds 38 = .ok (.invokevirtual 263, 3) := by decide +kernel
theorem dX9_kinds_41 : decode cX9_kinds 41 = .ok (.ireturn, 1) := by decide +kernel
set_option maxRecDepth 20000 in
theorem ggX9_image_X9_noStones : GoodIn wsX9_image wsX9_noStones := goodIn_r _ [9, 10, 11, 25, 26, 27, 28, 29, 30, 31, 32, 33, 34, 35, 36, 37, 38, 43, 44, 45, 46, 47, 48] (by decide +kernel) (by decide +kernel)
set_option maxRecDepth 20000 in
theorem gX9_image_X9_noStones : GoodIn wsX9_image (wsV RX9 142 RX9 yX9_noStones wsX9_noStones) := goodIn_app (goodIn_of _ (by decide +kernel)) ggX9_image_X9_noStones
set_option maxRecDepth 20000 in
theorem ggX9_image_X1_copy : GoodIn wsX9_image wsX1_copy := goodIn_r _ [16, 17, 18, 19, 20, 21, 22, 23, 24, 39, 40, 41, 42] (by decide +kernel) (by decide +kernel)
set_option maxRecDepth 20000 in
theorem gX9_image_X1_copy : GoodIn wsX9_image (wsV RX9 266 RX1 yX1_copy wsX1_copy) := goodIn_app (goodIn_of _ (by decide +kernel)) ggX9_image_X1_copy
theorem dX9_image_0 : decode cX9_image 0 = .ok (.aload_n 0, 1) := by decide +kernel
theorem dX9_image_1 : decode cX9_image 1 = .ok (.invokevirtual 142, 3) := by decide +kernel
theorem dX9_image_4 : decode cX9_image 4 = .ok (.ifCond .eq 6, 3) := by decide +kernel
theorem dX9_image_7 : decode cX9_image 7 = .ok (.bipush (-103), 2) := by decide +kernel
theorem dX9_image_9 : decode cX9_image 9 = .ok (.ireturn, 1) := by decide +kernel
theorem dX9_image_10 : decode cX9_image 10 = .ok (.aload_n 0, 1) := by decide +kernel
theorem dX9_image_11 : decode cX9_image 11 = .ok (.getfield 78, 3) := by decide +kernel
theorem dX9_image_14 : decode cX9_image 14 = .ok (.aload_n 0, 1) := by decide +kernel
theorem dX9_image_15 : decode cX9_image 15 = .ok (.getfield 74, 3) := by decide +kernel
theorem dX9_image_18 : decode cX9_image 18 = .ok (.invokevirtual 266, 3) := by decide +kernel
theorem dX9_image_21 : decode cX9_image 21 = .ok (.aload_n 0, 1) := by decide +kernel
theorem dX9_image_22 : decode cX9_image 22 = .ok (.iconst 1, 1) := by decide +kernel
theorem dX9_image_23 : decode cX9_image 23 = .ok (.putfield 133, 3) := by decide +kernel
theorem dX9_image_26 : decode cX9_image 26 = .ok (.aload_n 0, 1) := by decide +kernel
theorem dX9_image_27 : decode cX9_image 27 = .ok (.getfield 78, 3) := by decide +kernel
theorem dX9_image_30 : decode cX9_image 30 = .ok (.getfield 179, 3) := by decide +kernel
theorem dX9_image_33 : decode cX9_image 33 = .ok (.ireturn, 1) := by decide +kernel
set_option maxRecDepth 20000 in
theorem ggX9_restore_X1_copy : GoodIn wsX9_restore wsX1_copy := goodIn_r _ [9, 10, 11, 12, 13, 14, 15, 16, 17, 32, 33, 34, 35] (by decide +kernel) (by decide +kernel)
set_option maxRecDepth 20000 in
theorem gX9_restore_X1_copy : GoodIn wsX9_restore (wsV RX9 266 RX1 yX1_copy wsX1_copy) := goodIn_app (goodIn_of _ (by decide +kernel)) ggX9_restore_X1_copy
theorem dX9_restore_0 : decode cX9_restore 0 = .ok (.aload_n 0, 1) := by decide +kernel
theorem dX9_restore_1 : decode cX9_restore 1 = .ok (.getfield 133, 3) := by decide +kernel
theorem dX9_restore_4 : decode cX9_restore 4 = .ok (.ifCond .ne 6, 3) := by decide +kernel
theorem dX9_restore_7 : decode cX9_restore 7 = .ok (.bipush (-103), 2) := by decide +kernel
theorem dX9_restore_9 : decode cX9_restore 9 = .ok (.ireturn, 1) := by decide +kernel
theorem dX9_restore_10 : decode cX9_restore 10 = .ok (.aload_n 0, 1) := by decide +kernel
theorem dX9_restore_11 : decode cX9_restore 11 = .ok (.getfield 74, 3) := by decide +kernel
theorem dX9_restore_14 : decode cX9_restore 14 = .ok (.aload_n 0, 1) := by decide +kernel
theorem dX9_restore_15 : decode cX9_restore 15 = .ok (.getfield 78, 3) := by decide +kernel
theorem dX9_restore_18 : decode cX9_restore 18 = .ok (.invokevirtual 266, 3) := by decide +kernel
theorem dX9_restore_21 : decode cX9_restore 21 = .ok (.aload_n 0, 1) := by decide +kernel
theorem dX9_restore_22 : decode cX9_restore 22 = .ok (.getfield 74, 3) := by decide +kernel
theorem dX9_restore_25 : decode cX9_restore 25 = .ok (.getfield 179, 3) := by decide +kernel
theorem dX9_restore_28 : decode cX9_restore 28 = .ok (.ireturn, 1) := by decide +kernel
set_option maxRecDepth 20000 in
theorem ggX9_count_X9_frogsOf : GoodIn wsX9_count wsX9_frogsOf := goodIn_r _ [12, 13, 14, 11, 15, 16, 17, 18] (by decide +kernel) (by decide +kernel)
set_option maxRecDepth 20000 in
theorem gX9_count_X9_frogsOf : GoodIn wsX9_count (va_wsS RX9 152 yX9_frogsOf wsX9_frogsOf) := goodIn_app (goodIn_of _ (by decide +kernel)) ggX9_count_X9_frogsOf
set_option maxRecDepth 20000 in
theorem ggX9_count_X9_colouredOf : GoodIn wsX9_count wsX9_colouredOf := goodIn_r _ [15, 16, 17, 11, 18] (by decide +kernel) (by decide +kernel)
set_option maxRecDepth 20000 in
theorem gX9_count_X9_colouredOf : GoodIn wsX9_count (va_wsS RX9 270 yX9_colouredOf wsX9_colouredOf) := goodIn_app (goodIn_of _ (by decide +kernel)) ggX9_count_X9_colouredOf
theorem dX9_count_0 : decode cX9_count 0 = .ok (.iload_n 1, 1) := by decide +kernel
theorem dX9_count_1 : decode cX9_count 1 = .ok (.tableswitch 123 0 7 #[47, 55, 66, 78, 90, 102, 110, 118], 47) := by decide +kernel
theorem dX9_count_48 : decode cX9_count 48 = .ok (.aload_n 0, 1) := by decide +kernel
theorem dX9_count_49 : decode cX9_count 49 = .ok (.getfield 26, 3) := by decide +kernel
theorem dX9_count_52 : decode cX9_count 52 = .ok (.getfield 114, 3) := by decide +kernel
theorem dX9_count_55 : decode cX9_count 55 = .ok (.ireturn, 1) := by decide +kernel
theorem dX9_count_56 : decode cX9_count 56 = .ok (.aload_n 0, 1) := by decide +kernel
theorem dX9_count_57 : decode cX9_count 57 = .ok (.getfield 74, 3) := by decide +kernel
theorem dX9_count_60 : decode cX9_count 60 = .ok (.getfield 123, 3) := by decide +kernel
theorem dX9_count_63 : decode cX9_count 63 = .ok (.invokestatic 152, 3) := by decide +kernel
theorem dX9_count_66 : decode cX9_count 66 = .ok (.ireturn, 1) := by decide +kernel
theorem dX9_count_67 : decode cX9_count 67 = .ok (.aload_n 0, 1) := by decide +kernel
theorem dX9_count_68 : decode cX9_count 68 = .ok (.getfield 74, 3) := by decide +kernel
theorem dX9_count_71 : decode cX9_count 71 = .ok (.getfield 123, 3) := by decide +kernel
theorem dX9_count_74 : decode cX9_count 74 = .ok (.iconst 1, 1) := by decide +kernel
theorem dX9_count_75 : decode cX9_count 75 = .ok (.invokestatic 270, 3) := by decide +kernel
theorem dX9_count_78 : decode cX9_count 78 = .ok (.ireturn, 1) := by decide +kernel
theorem dX9_count_79 : decode cX9_count 79 = .ok (.aload_n 0, 1) := by decide +kernel
theorem dX9_count_80 : decode cX9_count 80 = .ok (.getfield 74, 3) := by decide +kernel
theorem dX9_count_83 : decode cX9_count 83 = .ok (.getfield 123, 3) := by decide +kernel
theorem dX9_count_86 : decode cX9_count 86 = .ok (.iconst 2, 1) := by decide +kernel
theorem dX9_count_87 : decode cX9_count 87 = .ok (.invokestatic 270, 3) := by decide +kernel
theorem dX9_count_90 : decode cX9_count 90 = .ok (.ireturn, 1) := by decide +kernel
theorem dX9_count_91 : decode cX9_count 91 = .ok (.aload_n 0, 1) := by decide +kernel
theorem dX9_count_92 : decode cX9_count 92 = .ok (.getfield 74, 3) := by decide +kernel
theorem dX9_count_95 : decode cX9_count 95 = .ok (.getfield 123, 3) := by decide +kernel
theorem dX9_count_98 : decode cX9_count 98 = .ok (.iconst 3, 1) := by decide +kernel
theorem dX9_count_99 : decode cX9_count 99 = .ok (.invokestatic 270, 3) := by decide +kernel
theorem dX9_count_102 : decode cX9_count 102 = .ok (.ireturn, 1) := by decide +kernel
theorem dX9_count_103 : decode cX9_count 103 = .ok (.aload_n 0, 1) := by decide +kernel
theorem dX9_count_104 : decode cX9_count 104 = .ok (.getfield 74, 3) := by decide +kernel
theorem dX9_count_107 : decode cX9_count 107 = .ok (.getfield 179, 3) := by decide +kernel
theorem dX9_count_110 : decode cX9_count 110 = .ok (.ireturn, 1) := by decide +kernel
theorem dX9_count_111 : decode cX9_count 111 = .ok (.aload_n 0, 1) := by decide +kernel
theorem dX9_count_112 : decode cX9_count 112 = .ok (.getfield 10, 3) := by decide +kernel
theorem dX9_count_115 : decode cX9_count 115 = .ok (.getfield 85, 3) := by decide +kernel
theorem dX9_count_118 : decode cX9_count 118 = .ok (.ireturn, 1) := by decide +kernel
theorem dX9_count_119 : decode cX9_count 119 = .ok (.aload_n 0, 1) := by decide +kernel
theorem dX9_count_120 : decode cX9_count 120 = .ok (.getfield 139, 3) := by decide +kernel
theorem dX9_count_123 : decode cX9_count 123 = .ok (.ireturn, 1) := by decide +kernel
theorem dX9_count_124 : decode cX9_count 124 = .ok (.bipush (-102), 2) := by decide +kernel
theorem dX9_count_126 : decode cX9_count 126 = .ok (.ireturn, 1) := by decide +kernel
set_option maxRecDepth 20000 in
theorem ggX9_digest_X9_stone : GoodIn wsX9_digest wsX9_stone := goodIn_r _ [12, 13, 14, 2, 5, 15, 16, 17, 18, 11, 19, 3, 20, 21, 22, 23, 24, 25, 26, 27, 28, 29, 30, 31, 184, 185, 186, 187, 188, 189, 190, 191, 192, 193, 194, 195, 196, 197, 206, 207, 208, 209, 198, 199, 200, 201, 202, 203] (by decide +kernel) (by decide +kernel)
set_option maxRecDepth 20000 in
theorem gX9_digest_X9_stone : GoodIn wsX9_digest (wsV RX9 277 RX9 yX9_stone wsX9_stone) := goodIn_app (goodIn_of _ (by decide +kernel)) ggX9_digest_X9_stone
set_option maxRecDepth 20000 in
theorem ggX9_digest_X9_noStones : GoodIn wsX9_digest wsX9_noStones := goodIn_r _ [35, 2, 3, 184, 185, 186, 187, 188, 189, 190, 191, 192, 193, 194, 195, 196, 197, 198, 199, 200, 201, 202, 203] (by decide +kernel) (by decide +kernel)
set_option maxRecDepth 20000 in
theorem gX9_digest_X9_noStones : GoodIn wsX9_digest (wsV RX9 142 RX9 yX9_noStones wsX9_noStones) := goodIn_app (goodIn_of _ (by decide +kernel)) ggX9_digest_X9_noStones
set_option maxRecDepth 20000 in
theorem ggX9_digest_X9_withMoves : GoodIn wsX9_digest wsX9_withMoves := goodIn_r _ [39, 40, 13, 14, 2, 3, 4, 41, 42, 43, 44, 45, 46, 47, 48, 49, 50, 51, 52, 24, 11, 25, 53, 54, 55, 56, 57, 58, 59, 27, 28, 29, 30, 31, 60, 61, 62, 63, 64, 65, 66, 67, 68, 69, 70, 71, 72, 73, 74, 75, 184, 185, 186, 187, 188, 189, 190, 191, 192, 193, 194, 195, 196, 197, 206, 207, 208, 209, 198, 199, 200, 201, 202, 203, 210, 211] (by decide +kernel) (by decide +kernel)
set_option maxRecDepth 20000 in
theorem gX9_digest_X9_withMoves : GoodIn wsX9_digest (wsV RX9 280 RX9 yX9_withMoves wsX9_withMoves) := goodIn_app (goodIn_of _ (by decide +kernel)) ggX9_digest_X9_withMoves
set_option maxRecDepth 20000 in
theorem ggX9_digest_X9_reach : GoodIn wsX9_digest wsX9_reach := goodIn_r _ [79, 80, 13, 14, 81, 82, 83, 32, 33, 34, 11, 35, 2, 3, 84, 85, 86, 87, 88, 89, 90, 91, 92, 93, 94, 95, 96, 97, 98, 99, 100, 101, 102, 103, 104, 105, 106, 107, 108, 109, 110, 111, 112, 113, 114, 115, 116, 117, 118, 119, 120, 121, 122, 123, 42, 43, 44, 45, 46, 47, 48, 49, 50, 51, 52, 24, 25, 53, 54, 55, 56, 57, 58, 59, 27, 28, 29, 30, 31, 60, 61, 62, 63, 64, 65, 66, 67, 124, 73, 74, 75, 125, 126, 127, 128, 129, 69, 70, 71, 72, 130, 131, 23, 132, 133, 134, 135, 136, 137, 138, 139, 184, 185, 186, 187, 188, 189, 190, 191, 192, 193, 194, 195, 196, 197, 206, 207, 208, 209, 212, 213, 214, 215, 216, 217, 218, 219, 220, 221, 222, 223, 224, 198, 199, 200, 201, 202, 203, 225, 226, 227, 228, 229, 210, 211] (by decide +kernel) (by decide +kernel)
set_option maxRecDepth 20000 in
theorem gX9_digest_X9_reach : GoodIn wsX9_digest (wsV RX9 284 RX9 yX9_reach wsX9_reach) := goodIn_app (goodIn_of _ (by decide +kernel)) ggX9_digest_X9_reach
set_option maxRecDepth 20000 in
theorem ggX9_digest_X9_fewest : GoodIn wsX9_digest wsX9_fewest := goodIn_r _ [143, 5, 80, 13, 14, 15, 84, 85, 86, 87, 88, 89, 90, 91, 92, 93, 94, 95, 96, 97, 98, 99, 100, 11, 101, 102, 103, 104, 105, 106, 107, 108, 109, 110, 111, 112, 113, 114, 115, 116, 117, 118, 119, 120, 121, 122, 123, 42, 43, 44, 45, 46, 47, 48, 49, 50, 51, 52, 24, 25, 53, 54, 55, 56, 57, 58, 59, 27, 28, 29, 30, 31, 60, 61, 62, 63, 64, 65, 66, 67, 124, 73, 74, 75, 125, 126, 127, 128, 129, 69, 70, 71, 72, 130, 131, 23, 132, 133, 134, 135, 136, 137, 138, 139, 144, 145, 146, 147, 184, 185, 186, 187, 188, 189, 190, 191, 192, 193, 194, 195, 196, 197, 206, 207, 208, 209, 212, 213, 214, 215, 216, 217, 218, 219, 220, 221, 222, 223, 224, 225, 226, 227, 228, 229, 198, 199, 200, 201, 202, 203, 210, 211] (by decide +kernel) (by decide +kernel)
set_option maxRecDepth 20000 in
theorem gX9_digest_X9_fewest : GoodIn wsX9_digest (wsV RX9 287 RX9 yX9_fewest wsX9_fewest) := goodIn_app (goodIn_of _ (by decide +kernel)) ggX9_digest_X9_fewest
set_option maxRecDepth 20000 in
theorem ggX9_digest_X9_ways : GoodIn wsX9_digest wsX9_ways := goodIn_r _ [151, 5, 152, 80, 13, 14, 15, 84, 85, 86, 87, 88, 89, 90, 91, 92, 93, 94, 95, 96, 97, 98, 99, 100, 11, 101, 102, 103, 104, 105, 106, 107, 108, 109, 110, 111, 112, 113, 114, 115, 116, 117, 118, 119, 120, 121, 122, 123, 42, 43, 44, 45, 46, 47, 48, 49, 50, 51, 52, 24, 25, 53, 54, 55, 56, 57, 58, 59, 27, 28, 29, 30, 31, 60, 61, 62, 63, 64, 65, 66, 67, 124, 73, 74, 75, 125, 126, 127, 128, 129, 69, 70, 71, 72, 130, 131, 23, 132, 133, 134, 135, 136, 137, 138, 139, 153, 154, 155, 156, 184, 185, 186, 187, 188, 189, 190, 191, 192, 193, 194, 195, 196, 197, 206, 207, 208, 209, 212, 213, 214, 215, 216, 217, 218, 219, 220, 221, 222, 223, 224, 225, 226, 227, 228, 229, 198, 199, 200, 201, 202, 203, 210, 211] (by decide +kernel) (by decide +kernel)
set_option maxRecDepth 20000 in
theorem gX9_digest_X9_ways : GoodIn wsX9_digest (wsV RX9 290 RX9 yX9_ways wsX9_ways) := goodIn_app (goodIn_of _ (by decide +kernel)) ggX9_digest_X9_ways
set_option maxRecDepth 20000 in
theorem ggX9_digest_X9_by : GoodIn wsX9_digest wsX9_by := goodIn_r _ [160, 5, 80, 13, 14, 15, 84, 85, 86, 87, 88, 89, 90, 91, 92, 93, 94, 95, 96, 97, 98, 99, 100, 11, 101, 102, 103, 104, 105, 106, 107, 108, 109, 110, 111, 112, 113, 114, 115, 116, 117, 118, 119, 120, 121, 122, 123, 42, 43, 44, 45, 46, 47, 48, 49, 50, 51, 52, 24, 25, 53, 54, 55, 56, 57, 58, 59, 27, 28, 29, 30, 31, 60, 61, 62, 63, 64, 65, 66, 67, 124, 73, 74, 75, 125, 126, 127, 128, 129, 69, 70, 71, 72, 130, 131, 23, 132, 133, 134, 135, 136, 137, 138, 139, 161, 162, 163, 164, 184, 185, 186, 187, 188, 189, 190, 191, 192, 193, 194, 195, 196, 197, 206, 207, 208, 209, 212, 213, 214, 215, 216, 217, 218, 219, 220, 221, 222, 223, 224, 225, 226, 227, 228, 229, 198, 199, 200, 201, 202, 203, 210, 211] (by decide +kernel) (by decide +kernel)
set_option maxRecDepth 20000 in
theorem gX9_digest_X9_by : GoodIn wsX9_digest (wsV RX9 294 RX9 yX9_by wsX9_by) := goodIn_app (goodIn_of _ (by decide +kernel)) ggX9_digest_X9_by
set_option maxRecDepth 20000 in
theorem ggX9_digest_X5_letterAt : GoodIn wsX9_digest wsX5_letterAt := goodIn_r _ [169, 170, 171, 204, 205] (by decide +kernel) (by decide +kernel)
set_option maxRecDepth 20000 in
theorem gX9_digest_X5_letterAt : GoodIn wsX9_digest (wsV RX9 297 RX5 yX5_letterAt wsX5_letterAt) := goodIn_app (goodIn_of _ (by decide +kernel)) ggX9_digest_X5_letterAt
set_option maxRecDepth 20000 in
theorem ggX9_digest_X9_count : GoodIn wsX9_digest wsX9_count := goodIn_r _ [175, 2, 3, 13, 14, 176, 6, 7, 177, 178, 179, 11, 180, 181, 182, 183, 23, 24, 25, 184, 185, 186, 187, 188, 189, 190, 191, 192, 193, 194, 195, 196, 197, 198, 199, 200, 201, 202, 203, 206, 207, 208, 209, 204, 205] (by decide +kernel) (by decide +kernel)
set_option maxRecDepth 20000 in
theorem gX9_digest_X9_count : GoodIn wsX9_digest (wsV RX9 300 RX9 yX9_count wsX9_count) := goodIn_app (goodIn_of _ (by decide +kernel)) ggX9_digest_X9_count
theorem dX9_digest_0 : decode cX9_digest 0 = .ok (.ldc2_w 273, 3) := by decide +kernel
theorem dX9_digest_3 : decode cX9_digest 3 = .ok (.lstore_n 1, 1) := by decide +kernel
theorem dX9_digest_4 : decode cX9_digest 4 = .ok (.iconst 0, 1) := by decide +kernel
theorem dX9_digest_5 : decode cX9_digest 5 = .ok (.istore_n 3, 1) := by decide +kernel
theorem dX9_digest_6 : decode cX9_digest 6 = .ok (.iload_n 3, 1) := by decide +kernel
theorem dX9_digest_7 : decode cX9_digest 7 = .ok (.aload_n 0, 1) := by decide +kernel
theorem dX9_digest_8 : decode cX9_digest 8 = .ok (.getfield 26, 3) := by decide +kernel
theorem dX9_digest_11 : decode cX9_digest 11 = .ok (.getfield 114, 3) := by decide +kernel
theorem dX9_digest_14 : decode cX9_digest 14 = .ok (.if_icmp .ge 39, 3) := by decide +kernel
theorem dX9_digest_17 : decode cX9_digest 17 = .ok (.iconst 0, 1) := by decide +kernel
theorem dX9_digest_18 : decode cX9_digest 18 = .ok (.istore 4, 2) := by decide +kernel
theorem dX9_digest_20 : decode cX9_digest 20 = .ok (.iload 4, 2) := by decide +kernel
theorem dX9_digest_22 : decode cX9_digest 22 = .ok (.iconst 2, 1) := by decide +kernel
theorem dX9_digest_23 : decode cX9_digest 23 = .ok (.if_icmp .gt 24, 3) := by decide +kernel
theorem dX9_digest_26 : decode cX9_digest 26 = .ok (.ldc2_w 275, 3) := by decide +kernel
theorem dX9_digest_29 : decode cX9_digest 29 = .ok (.lload_n 1, 1) := by decide +kernel
theorem dX9_digest_30 : decode cX9_digest 30 = .ok (.lmul, 1) := by decide +kernel
theorem dX9_digest_31 : decode cX9_digest 31 = .ok (.aload_n 0, 1) := by decide +kernel
theorem dX9_digest_32 : decode cX9_digest 32 = .ok (.iload_n 3, 1) := by decide +kernel
theorem dX9_digest_33 : decode cX9_digest 33 = .ok (.iload 4, 2) := by decide +kernel
theorem dX9_digest_35 : decode cX9_digest 35 = .ok (.invokevirtual 277, 3) := by decide +kernel
theorem dX9_digest_38 : decode cX9_digest 38 = .ok (.i2l, 1) := by decide +kernel
theorem dX9_digest_39 : decode cX9_digest 39 = .ok (.ladd, 1) := by decide +kernel
theorem dX9_digest_40 : decode cX9_digest 40 = .ok (.lstore_n 1, 1) := by decide +kernel
theorem dX9_digest_41 : decode cX9_digest 41 = .ok (.iinc 4 1, 3) := by decide +kernel
theorem dX9_digest_44 : decode cX9_digest 44 = .ok (.goto (-24), 3) := by decide +kernel
theorem dX9_digest_47 : decode cX9_digest 47 = .ok (.iinc 3 1, 3) := by decide +kernel
theorem dX9_digest_50 : decode cX9_digest 50 = .ok (.goto (-44), 3) := by decide +kernel
theorem dX9_digest_53 : decode cX9_digest 53 = .ok (.aload_n 0, 1) := by decide +kernel
theorem dX9_digest_54 : decode cX9_digest 54 = .ok (.invokevirtual 142, 3) := by decide +kernel
theorem dX9_digest_57 : decode cX9_digest 57 = .ok (.ifCond .ne 35, 3) := by decide +kernel
theorem dX9_digest_60 : decode cX9_digest 60 = .ok (.aload_n 0, 1) := by decide +kernel
theorem dX9_digest_61 : decode cX9_digest 61 = .ok (.lload_n 1, 1) := by decide +kernel
theorem dX9_digest_62 : decode cX9_digest 62 = .ok (.invokevirtual 280, 3) := by decide +kernel
theorem dX9_digest_65 : decode cX9_digest 65 = .ok (.lstore_n 1, 1) := by decide +kernel
theorem dX9_digest_66 : decode cX9_digest 66 = .ok (.iconst 0, 1) := by decide +kernel
theorem dX9_digest_67 : decode cX9_digest 67 = .ok (.istore_n 3, 1) := by decide +kernel
theorem dX9_digest_68 : decode cX9_digest 68 = .ok (.iload_n 3, 1) := by decide +kernel
theorem dX9_digest_69 : decode cX9_digest 69 = .ok (.iconst 2, 1) := by decide +kernel
theorem dX9_digest_70 : decode cX9_digest 70 = .ok (.if_icmp .gt 22, 3) := by decide +kernel
theorem dX9_digest_73 : decode cX9_digest 73 = .ok (.ldc2_w 275, 3) := by decide +kernel
theorem dX9_digest_76 : decode cX9_digest 76 = .ok (.lload_n 1, 1) := by decide +kernel
theorem dX9_digest_77 : decode cX9_digest 77 = .ok (.lmul, 1) := by decide +kernel
theorem dX9_digest_78 : decode cX9_digest 78 = .ok (.aload_n 0, 1) := by decide +kernel
theorem dX9_digest_79 : decode cX9_digest 79 = .ok (.iload_n 3, 1) := by decide +kernel
theorem dX9_digest_80 : decode cX9_digest 80 = .ok (.invokevirtual 284, 3) := by decide +kernel
theorem dX9_digest_83 : decode cX9_digest 83 = .ok (.i2l, 1) := by decide +kernel
theorem dX9_digest_84 : decode cX9_digest 84 = .ok (.ladd, 1) := by decide +kernel
theorem dX9_digest_85 : decode cX9_digest 85 = .ok (.lstore_n 1, 1) := by decide +kernel
theorem dX9_digest_86 : decode cX9_digest 86 = .ok (.iinc 3 1, 3) := by decide +kernel
theorem dX9_digest_89 : decode cX9_digest 89 = .ok (.goto (-21), 3) := by decide +kernel
theorem dX9_digest_92 : decode cX9_digest 92 = .ok (.aload_n 0, 1) := by decide +kernel
theorem dX9_digest_93 : decode cX9_digest 93 = .ok (.getfield 136, 3) := by decide +kernel
theorem dX9_digest_96 : decode cX9_digest 96 = .ok (.ifCond .eq 38, 3) := by decide +kernel
theorem dX9_digest_99 : decode cX9_digest 99 = .ok (.ldc2_w 275, 3) := by decide +kernel
theorem dX9_digest_102 : decode cX9_digest 102 = .ok (.lload_n 1, 1) := by decide +kernel
theorem dX9_digest_103 : decode cX9_digest 103 = .ok (.lmul, 1) := by decide +kernel
theorem dX9_digest_104 : decode cX9_digest 104 = .ok (.aload_n 0, 1) := by decide +kernel
theorem dX9_digest_105 : decode cX9_digest 105 = .ok (.invokevirtual 287, 3) := by decide +kernel
theorem dX9_digest_108 : decode cX9_digest 108 = .ok (.i2l, 1) := by decide +kernel
theorem dX9_digest_109 : decode cX9_digest 109 = .ok (.ladd, 1) := by decide +kernel
theorem dX9_digest_110 : decode cX9_digest 110 = .ok (.lstore_n 1, 1) := by decide +kernel
theorem dX9_digest_111 : decode cX9_digest 111 = .ok (.ldc2_w 275, 3) := by decide +kernel
theorem dX9_digest_114 : decode cX9_digest 114 = .ok (.lload_n 1, 1) := by decide +kernel
theorem dX9_digest_115 : decode cX9_digest 115 = .ok (.lmul, 1) := by decide +kernel
theorem dX9_digest_116 : decode cX9_digest 116 = .ok (.aload_n 0, 1) := by decide +kernel
theorem dX9_digest_117 : decode cX9_digest 117 = .ok (.invokevirtual 290, 3) := by decide +kernel
theorem dX9_digest_120 : decode cX9_digest 120 = .ok (.ladd, 1) := by decide +kernel
theorem dX9_digest_121 : decode cX9_digest 121 = .ok (.lstore_n 1, 1) := by decide +kernel
theorem dX9_digest_122 : decode cX9_digest 122 = .ok (.ldc2_w 275, 3) := by decide +kernel
theorem dX9_digest_125 : decode cX9_digest 125 = .ok (.lload_n 1, 1) := by decide +kernel
theorem dX9_digest_126 : decode cX9_digest 126 = .ok (.lmul, 1) := by decide +kernel
theorem dX9_digest_127 : decode cX9_digest 127 = .ok (.aload_n 0, 1) := by decide +kernel
theorem dX9_digest_128 : decode cX9_digest 128 = .ok (.invokevirtual 294, 3) := by decide +kernel
theorem dX9_digest_131 : decode cX9_digest 131 = .ok (.i2l, 1) := by decide +kernel
theorem dX9_digest_132 : decode cX9_digest 132 = .ok (.ladd, 1) := by decide +kernel
theorem dX9_digest_133 : decode cX9_digest 133 = .ok (.lstore_n 1, 1) := by decide +kernel
theorem dX9_digest_134 : decode cX9_digest 134 = .ok (.iconst 0, 1) := by decide +kernel
theorem dX9_digest_135 : decode cX9_digest 135 = .ok (.istore_n 3, 1) := by decide +kernel
theorem dX9_digest_136 : decode cX9_digest 136 = .ok (.iload_n 3, 1) := by decide +kernel
theorem dX9_digest_137 : decode cX9_digest 137 = .ok (.aload_n 0, 1) := by decide +kernel
theorem dX9_digest_138 : decode cX9_digest 138 = .ok (.getfield 10, 3) := by decide +kernel
theorem dX9_digest_141 : decode cX9_digest 141 = .ok (.getfield 85, 3) := by decide +kernel
theorem dX9_digest_144 : decode cX9_digest 144 = .ok (.if_icmp .ge 25, 3) := by decide +kernel
theorem dX9_digest_147 : decode cX9_digest 147 = .ok (.ldc2_w 275, 3) := by decide +kernel
theorem dX9_digest_150 : decode cX9_digest 150 = .ok (.lload_n 1, 1) := by decide +kernel
theorem dX9_digest_151 : decode cX9_digest 151 = .ok (.lmul, 1) := by decide +kernel
theorem dX9_digest_152 : decode cX9_digest 152 = .ok (.aload_n 0, 1) := by decide +kernel
theorem dX9_digest_153 : decode cX9_digest 153 = .ok (.getfield 10, 3) := by decide +kernel
theorem dX9_digest_156 : decode cX9_digest 156 = .ok (.iload_n 3, 1) := by decide +kernel
theorem dX9_digest_157 : decode cX9_digest 157 = .ok (.invokevirtual 297, 3) := by decide +kernel
theorem dX9_digest_160 : decode cX9_digest 160 = .ok (.i2l, 1) := by decide +kernel
theorem dX9_digest_161 : decode cX9_digest 161 = .ok (.ladd, 1) := by decide +kernel
theorem dX9_digest_162 : decode cX9_digest 162 = .ok (.lstore_n 1, 1) := by decide +kernel
theorem dX9_digest_163 : decode cX9_digest 163 = .ok (.iinc 3 1, 3) := by decide +kernel
theorem dX9_digest_166 : decode cX9_digest 166 = .ok (.goto (-30), 3) := by decide +kernel
theorem dX9_digest_169 : decode cX9_digest 169 = .ok (.iconst 0, 1) := by decide +kernel
theorem dX9_digest_170 : decode cX9_digest 170 = .ok (.istore_n 3, 1) := by decide +kernel
theorem dX9_digest_171 : decode cX9_digest 171 = .ok (.iload_n 3, 1) := by decide +kernel
theorem dX9_digest_172 : decode cX9_digest 172 = .ok (.bipush 8, 2) := by decide +kernel
theorem dX9_digest_174 : decode cX9_digest 174 = .ok (.if_icmp .ge 22, 3) := by decide +kernel
theorem dX9_digest_177 : decode cX9_digest 177 = .ok (.ldc2_w 275, 3) := by decide +kernel
theorem dX9_digest_180 : decode cX9_digest 180 = .ok (.lload_n 1, 1) := by decide +kernel
theorem dX9_digest_181 : decode cX9_digest 181 = .ok (.lmul, 1) := by decide +kernel
theorem dX9_digest_182 : decode cX9_digest 182 = .ok (.aload_n 0, 1) := by decide +kernel
theorem dX9_digest_183 : decode cX9_digest 183 = .ok (.iload_n 3, 1) := by decide +kernel
theorem dX9_digest_184 : decode cX9_digest 184 = .ok (.invokevirtual 300, 3) := by decide +kernel
theorem dX9_digest_187 : decode cX9_digest 187 = .ok (.i2l, 1) := by decide +kernel
theorem dX9_digest_188 : decode cX9_digest 188 = .ok (.ladd, 1) := by decide +kernel
theorem dX9_digest_189 : decode cX9_digest 189 = .ok (.lstore_n 1, 1) := by decide +kernel
theorem dX9_digest_190 : decode cX9_digest 190 = .ok (.iinc 3 1, 3) := by decide +kernel
theorem dX9_digest_193 : decode cX9_digest 193 = .ok (.goto (-22), 3) := by decide +kernel
theorem dX9_digest_196 : decode cX9_digest 196 = .ok (.lload_n 1, 1) := by decide +kernel
theorem dX9_digest_197 : decode cX9_digest 197 = .ok (.lreturn, 1) := by decide +kernel
set_option maxRecDepth 20000 in
theorem ggX9_withMoves_X3_find : GoodIn wsX9_withMoves wsX3_find := goodIn_r _ [11, 12, 13, 14, 15, 16, 17, 18, 19, 20, 21, 22, 23, 24, 10, 25, 26, 27, 28, 29, 30, 31, 32, 33, 34, 35, 36, 37, 38, 39, 40, 41, 74, 75, 68, 69, 70, 71, 72, 73] (by decide +kernel) (by decide +kernel)
set_option maxRecDepth 20000 in
theorem gX9_withMoves_X3_find : GoodIn wsX9_withMoves (wsV RX9 173 RX3 yX3_find wsX3_find) := goodIn_app (goodIn_of _ (by decide +kernel)) ggX9_withMoves_X3_find
set_option maxRecDepth 20000 in
theorem ggX9_withMoves_X3_has : GoodIn wsX9_withMoves wsX3_has := goodIn_r _ [45, 46, 47, 48, 10, 49, 12, 74, 75] (by decide +kernel) (by decide +kernel)
set_option maxRecDepth 20000 in
theorem gX9_withMoves_X3_has : GoodIn wsX9_withMoves (wsV RX9 176 RX3 yX3_has wsX3_has) := goodIn_app (goodIn_of _ (by decide +kernel)) ggX9_withMoves_X3_has
theorem dX9_withMoves_0 : decode cX9_withMoves 0 = .ok (.lload_n 1, 1) := by decide +kernel
theorem dX9_withMoves_1 : decode cX9_withMoves 1 = .ok (.lstore_n 3, 1) := by decide +kernel
theorem dX9_withMoves_2 : decode cX9_withMoves 2 = .ok (.aload_n 0, 1) := by decide +kernel
theorem dX9_withMoves_3 : decode cX9_withMoves 3 = .ok (.getfield 35, 3) := by decide +kernel
theorem dX9_withMoves_6 : decode cX9_withMoves 6 = .ok (.aload_n 0, 1) := by decide +kernel
theorem dX9_withMoves_7 : decode cX9_withMoves 7 = .ok (.getfield 74, 3) := by decide +kernel
theorem dX9_withMoves_10 : decode cX9_withMoves 10 = .ok (.getfield 123, 3) := by decide +kernel
theorem dX9_withMoves_13 : decode cX9_withMoves 13 = .ok (.invokevirtual 173, 3) := by decide +kernel
theorem dX9_withMoves_16 : decode cX9_withMoves 16 = .ok (.iconst 0, 1) := by decide +kernel
theorem dX9_withMoves_17 : decode cX9_withMoves 17 = .ok (.istore 5, 2) := by decide +kernel
theorem dX9_withMoves_19 : decode cX9_withMoves 19 = .ok (.iload 5, 2) := by decide +kernel
theorem dX9_withMoves_21 : decode cX9_withMoves 21 = .ok (.aload_n 0, 1) := by decide +kernel
theorem dX9_withMoves_22 : decode cX9_withMoves 22 = .ok (.getfield 26, 3) := by decide +kernel
theorem dX9_withMoves_25 : decode cX9_withMoves 25 = .ok (.getfield 114, 3) := by decide +kernel
theorem dX9_withMoves_28 : decode cX9_withMoves 28 = .ok (.if_icmp .ge 61, 3) := by decide +kernel
theorem dX9_withMoves_31 : decode cX9_withMoves 31 = .ok (.iconst 0, 1) := by decide +kernel
theorem dX9_withMoves_32 : decode cX9_withMoves 32 = .ok (.istore 6, 2) := by decide +kernel
theorem dX9_withMoves_34 : decode cX9_withMoves 34 = .ok (.iload 6, 2) := by decide +kernel
theorem dX9_withMoves_36 : decode cX9_withMoves 36 = .ok (.aload_n 0, 1) := by decide +kernel
theorem dX9_withMoves_37 : decode cX9_withMoves 37 = .ok (.getfield 26, 3) := by decide +kernel
theorem dX9_withMoves_40 : decode cX9_withMoves 40 = .ok (.getfield 114, 3) := by decide +kernel
theorem dX9_withMoves_43 : decode cX9_withMoves 43 = .ok (.if_icmp .ge 40, 3) := by decide +kernel
theorem dX9_withMoves_46 : decode cX9_withMoves 46 = .ok (.aload_n 0, 1) := by decide +kernel
theorem dX9_withMoves_47 : decode cX9_withMoves 47 = .ok (.getfield 35, 3) := by decide +kernel
theorem dX9_withMoves_50 : decode cX9_withMoves 50 = .ok (.iload 5, 2) := by decide +kernel
theorem dX9_withMoves_52 : decode cX9_withMoves 52 = .ok (.iload 6, 2) := by decide +kernel
theorem dX9_withMoves_54 : decode cX9_withMoves 54 = .ok (.invokevirtual 176, 3) := by decide +kernel
theorem dX9_withMoves_57 : decode cX9_withMoves 57 = .ok (.ifCond .eq 20, 3) := by decide +kernel
theorem dX9_withMoves_60 : decode cX9_withMoves 60 = .ok (.ldc2_w 275, 3) := by decide +kernel
theorem dX9_withMoves_63 : decode cX9_withMoves 63 = .ok (.lload_n 3, 1) := by decide +kernel
theorem dX9_withMoves_64 : decode cX9_withMoves 64 = .ok (.lmul, 1) := by decide +kernel
theorem dX9_withMoves_65 : decode cX9_withMoves 65 = .ok (.bipush 16, 2) := by decide +kernel
theorem dX9_withMoves_67 : decode cX9_withMoves 67 = .ok (.iload 5, 2) := by decide +kernel
theorem dX9_withMoves_69 : decode cX9_withMoves 69 = .ok (.imul, 1) := by decide +kernel
theorem dX9_withMoves_70 : decode cX9_withMoves 70 = .ok (.i2l, 1) := by decide +kernel
theorem dX9_withMoves_71 : decode cX9_withMoves 71 = .ok (.ladd, 1) := by decide +kernel
theorem dX9_withMoves_72 : decode cX9_withMoves 72 = .ok (.iload 6, 2) := by decide +kernel
theorem dX9_withMoves_74 : decode cX9_withMoves 74 = .ok (.i2l, 1) := by decide +kernel
theorem dX9_withMoves_75 : decode cX9_withMoves 75 = .ok (.ladd, 1) := by decide +kernel
theorem dX9_withMoves_76 : decode cX9_withMoves 76 = .ok (.lstore_n 3, 1) := by decide +kernel
theorem dX9_withMoves_77 : decode cX9_withMoves 77 = .ok (.iinc 6 1, 3) := by decide +kernel
theorem dX9_withMoves_80 : decode cX9_withMoves 80 = .ok (.goto (-46), 3) := by decide +kernel
theorem dX9_withMoves_83 : decode cX9_withMoves 83 = .ok (.iinc 5 1, 3) := by decide +kernel
theorem dX9_withMoves_86 : decode cX9_withMoves 86 = .ok (.goto (-67), 3) := by decide +kernel
theorem dX9_withMoves_89 : decode cX9_withMoves 89 = .ok (.lload_n 3, 1) := by decide +kernel
theorem dX9_withMoves_90 : decode cX9_withMoves 90 = .ok (.lreturn, 1) := by decide +kernel
theorem dX9_noStones_0 : decode cX9_noStones 0 = .ok (.aload_n 0, 1) := by decide +kernel
theorem dX9_noStones_1 : decode cX9_noStones 1 = .ok (.getfield 26, 3) := by decide +kernel
theorem dX9_noStones_4 : decode cX9_noStones 4 = .ok (.getfield 114, 3) := by decide +kernel
theorem dX9_noStones_7 : decode cX9_noStones 7 = .ok (.ifCond .ne 7, 3) := by decide +kernel
theorem dX9_noStones_10 : decode cX9_noStones 10 = .ok (.iconst 1, 1) := by decide +kernel
theorem dX9_noStones_11 : decode cX9_noStones 11 = .ok (.goto 4, 3) := by decide +kernel
theorem dX9_noStones_14 : decode cX9_noStones 14 = .ok (.iconst 0, 1) := by decide +kernel
theorem dX9_noStones_15 : decode cX9_noStones 15 = .ok (.ireturn, 1) := by decide +kernel
theorem dX9_isStone_0 : decode cX9_isStone 0 = .ok (.iload_n 1, 1) := by decide +kernel
theorem dX9_isStone_1 : decode cX9_isStone 1 = .ok (.ifCond .lt 18, 3) := by decide +kernel
theorem dX9_isStone_4 : decode cX9_isStone 4 = .ok (.iload_n 1, 1) := by decide +kernel
theorem dX9_isStone_5 : decode cX9_isStone 5 = .ok (.aload_n 0, 1) := by decide +kernel
theorem dX9_isStone_6 : decode cX9_isStone 6 = .ok (.getfield 26, 3) := by decide +kernel
theorem dX9_isStone_9 : decode cX9_isStone 9 = .ok (.getfield 114, 3) := by decide +kernel
theorem dX9_isStone_12 : decode cX9_isStone 12 = .ok (.if_icmp .ge 7, 3) := by decide +kernel
theorem dX9_isStone_15 : decode cX9_isStone 15 = .ok (.iconst 1, 1) := by decide +kernel
theorem dX9_isStone_16 : decode cX9_isStone 16 = .ok (.goto 4, 3) := by decide +kernel
theorem dX9_isStone_19 : decode cX9_isStone 19 = .ok (.iconst 0, 1) := by decide +kernel
theorem dX9_isStone_20 : decode cX9_isStone 20 = .ok (.ireturn, 1) := by decide +kernel
set_option maxRecDepth 20000 in
theorem ggX9_isEnding_X9_noStones : GoodIn wsX9_isEnding wsX9_noStones := goodIn_r _ [9, 1, 10, 17, 18, 19, 20, 21, 22, 23, 24, 25, 26, 27, 28, 29, 30, 31, 32, 33, 34, 35, 36] (by decide +kernel) (by decide +kernel)
set_option maxRecDepth 20000 in
theorem gX9_isEnding_X9_noStones : GoodIn wsX9_isEnding (wsV RX9 142 RX9 yX9_noStones wsX9_noStones) := goodIn_app (goodIn_of _ (by decide +kernel)) ggX9_isEnding_X9_noStones
set_option maxRecDepth 20000 in
theorem ggX9_isEnding_X9_colouredOf : GoodIn wsX9_isEnding wsX9_colouredOf := goodIn_r _ [13, 14, 15, 8, 16] (by decide +kernel) (by decide +kernel)
set_option maxRecDepth 20000 in
theorem gX9_isEnding_X9_colouredOf : GoodIn wsX9_isEnding (va_wsS RX9 270 yX9_colouredOf wsX9_colouredOf) := goodIn_app (goodIn_of _ (by decide +kernel)) ggX9_isEnding_X9_colouredOf
theorem dX9_isEnding_0 : decode cX9_isEnding 0 = .ok (.aload_n 0, 1) := by decide +kernel
theorem dX9_isEnding_1 : decode cX9_isEnding 1 = .ok (.invokevirtual 142, 3) := by decide +kernel
theorem dX9_isEnding_4 : decode cX9_isEnding 4 = .ok (.ifCond .ne 31, 3) := by decide +kernel
theorem dX9_isEnding_7 : decode cX9_isEnding 7 = .ok (.aload_n 0, 1) := by decide +kernel
theorem dX9_isEnding_8 : decode cX9_isEnding 8 = .ok (.getfield 26, 3) := by decide +kernel
theorem dX9_isEnding_11 : decode cX9_isEnding 11 = .ok (.getfield 257, 3) := by decide +kernel
theorem dX9_isEnding_14 : decode cX9_isEnding 14 = .ok (.ifCond .ne 21, 3) := by decide +kernel
theorem dX9_isEnding_17 : decode cX9_isEnding 17 = .ok (.aload_n 0, 1) := by decide +kernel
theorem dX9_isEnding_18 : decode cX9_isEnding 18 = .ok (.getfield 74, 3) := by decide +kernel
theorem dX9_isEnding_21 : decode cX9_isEnding 21 = .ok (.getfield 123, 3) := by decide +kernel
theorem dX9_isEnding_24 : decode cX9_isEnding 24 = .ok (.iconst 3, 1) := by decide +kernel
theorem dX9_isEnding_25 : decode cX9_isEnding 25 = .ok (.invokestatic 270, 3) := by decide +kernel
theorem dX9_isEnding_28 : decode cX9_isEnding 28 = .ok (.ifCond .ne 7, 3) := by decide +kernel
theorem dX9_isEnding_31 : decode cX9_isEnding 31 = .ok (.iconst 1, 1) := by decide +kernel
theorem dX9_isEnding_32 : decode cX9_isEnding 32 = .ok (.goto 4, 3) := by decide +kernel
theorem dX9_isEnding_35 : decode cX9_isEnding 35 = .ok (.iconst 0, 1) := by decide +kernel
theorem dX9_isEnding_36 : decode cX9_isEnding 36 = .ok (.ireturn, 1) := by decide +kernel
set_option maxRecDepth 20000 in
theorem ggX9_pageIsAim_X5_letterAt : GoodIn wsX9_pageIsAim wsX5_letterAt := goodIn_r _ [11, 12, 13, 43, 44] (by decide +kernel) (by decide +kernel)
set_option maxRecDepth 20000 in
theorem gX9_pageIsAim_X5_letterAt : GoodIn wsX9_pageIsAim (wsV RX9 297 RX5 yX5_letterAt wsX5_letterAt) := goodIn_app (goodIn_of _ (by decide +kernel)) ggX9_pageIsAim_X5_letterAt
set_option maxRecDepth 20000 in
theorem ggX9_pageIsAim_X9_kindOfLetter : GoodIn wsX9_pageIsAim wsX9_kindOfLetter := goodIn_r _ [17] (by decide +kernel) (by decide +kernel)
set_option maxRecDepth 20000 in
theorem gX9_pageIsAim_X9_kindOfLetter : GoodIn wsX9_pageIsAim (va_wsS RX9 303 yX9_kindOfLetter wsX9_kindOfLetter) := goodIn_app (goodIn_of _ (by decide +kernel)) ggX9_pageIsAim_X9_kindOfLetter
set_option maxRecDepth 20000 in
theorem ggX9_pageIsAim_X5_orderAt : GoodIn wsX9_pageIsAim wsX5_orderAt := goodIn_r _ [21, 22, 8, 9, 10, 11, 12, 13, 15, 16, 17, 43, 44] (by decide +kernel) (by decide +kernel)
set_option maxRecDepth 20000 in
theorem gX9_pageIsAim_X5_orderAt : GoodIn wsX9_pageIsAim (wsV RX9 115 RX5 yX5_orderAt wsX5_orderAt) := goodIn_app (goodIn_of _ (by decide +kernel)) ggX9_pageIsAim_X5_orderAt
set_option maxRecDepth 20000 in
theorem ggX9_pageIsAim_X9_colouredOf : GoodIn wsX9_pageIsAim wsX9_colouredOf := goodIn_r _ [25, 26, 27, 16, 28] (by decide +kernel) (by decide +kernel)
set_option maxRecDepth 20000 in
theorem gX9_pageIsAim_X9_colouredOf : GoodIn wsX9_pageIsAim (va_wsS RX9 270 yX9_colouredOf wsX9_colouredOf) := goodIn_app (goodIn_of _ (by decide +kernel)) ggX9_pageIsAim_X9_colouredOf
theorem dX9_pageIsAim_0 : decode cX9_pageIsAim 0 = .ok (.aload_n 0, 1) := by decide +kernel
theorem dX9_pageIsAim_1 : decode cX9_pageIsAim 1 = .ok (.getfield 10, 3) := by decide +kernel
theorem dX9_pageIsAim_4 : decode cX9_pageIsAim 4 = .ok (.getfield 85, 3) := by decide +kernel
theorem dX9_pageIsAim_7 : decode cX9_pageIsAim 7 = .ok (.aload_n 0, 1) := by decide +kernel
theorem dX9_pageIsAim_8 : decode cX9_pageIsAim 8 = .ok (.getfield 26, 3) := by decide +kernel
theorem dX9_pageIsAim_11 : decode cX9_pageIsAim 11 = .ok (.getfield 114, 3) := by decide +kernel
theorem dX9_pageIsAim_14 : decode cX9_pageIsAim 14 = .ok (.if_icmp .eq 5, 3) := by decide +kernel
theorem dX9_pageIsAim_17 : decode cX9_pageIsAim 17 = .ok (.iconst 0, 1) := by decide +kernel
theorem dX9_pageIsAim_18 : decode cX9_pageIsAim 18 = .ok (.ireturn, 1) := by decide +kernel
theorem dX9_pageIsAim_19 : decode cX9_pageIsAim 19 = .ok (.iconst 0, 1) := by decide +kernel
theorem dX9_pageIsAim_20 : decode cX9_pageIsAim 20 = .ok (.istore_n 1, 1) := by decide +kernel
theorem dX9_pageIsAim_21 : decode cX9_pageIsAim 21 = .ok (.iload_n 1, 1) := by decide +kernel
theorem dX9_pageIsAim_22 : decode cX9_pageIsAim 22 = .ok (.aload_n 0, 1) := by decide +kernel
theorem dX9_pageIsAim_23 : decode cX9_pageIsAim 23 = .ok (.getfield 10, 3) := by decide +kernel
theorem dX9_pageIsAim_26 : decode cX9_pageIsAim 26 = .ok (.getfield 85, 3) := by decide +kernel
theorem dX9_pageIsAim_29 : decode cX9_pageIsAim 29 = .ok (.if_icmp .ge 26, 3) := by decide +kernel
theorem dX9_pageIsAim_32 : decode cX9_pageIsAim 32 = .ok (.aload_n 0, 1) := by decide +kernel
theorem dX9_pageIsAim_33 : decode cX9_pageIsAim 33 = .ok (.getfield 10, 3) := by decide +kernel
theorem dX9_pageIsAim_36 : decode cX9_pageIsAim 36 = .ok (.iload_n 1, 1) := by decide +kernel
theorem dX9_pageIsAim_37 : decode cX9_pageIsAim 37 = .ok (.invokevirtual 297, 3) := by decide +kernel
theorem dX9_pageIsAim_40 : decode cX9_pageIsAim 40 = .ok (.invokestatic 303, 3) := by decide +kernel
theorem dX9_pageIsAim_43 : decode cX9_pageIsAim 43 = .ok (.iconst (-1), 1) := by decide +kernel
theorem dX9_pageIsAim_44 : decode cX9_pageIsAim 44 = .ok (.if_icmp .ne 5, 3) := by decide +kernel
theorem dX9_pageIsAim_47 : decode cX9_pageIsAim 47 = .ok (.iconst 0, 1) := by decide +kernel
theorem dX9_pageIsAim_48 : decode cX9_pageIsAim 48 = .ok (.ireturn, 1) := by decide +kernel
theorem dX9_pageIsAim_49 : decode cX9_pageIsAim 49 = .ok (.iinc 1 1, 3) := by decide +kernel
theorem dX9_pageIsAim_52 : decode cX9_pageIsAim 52 = .ok (.goto (-31), 3) := by decide +kernel
theorem dX9_pageIsAim_55 : decode cX9_pageIsAim 55 = .ok (.aload_n 0, 1) := by decide +kernel
theorem dX9_pageIsAim_56 : decode cX9_pageIsAim 56 = .ok (.getfield 10, 3) := by decide +kernel
theorem dX9_pageIsAim_59 : decode cX9_pageIsAim 59 = .ok (.iconst 0, 1) := by decide +kernel
theorem dX9_pageIsAim_60 : decode cX9_pageIsAim 60 = .ok (.aload_n 0, 1) := by decide +kernel
theorem dX9_pageIsAim_61 : decode cX9_pageIsAim 61 = .ok (.getfield 26, 3) := by decide +kernel
theorem dX9_pageIsAim_64 : decode cX9_pageIsAim 64 = .ok (.getfield 114, 3) := by decide +kernel
theorem dX9_pageIsAim_67 : decode cX9_pageIsAim 67 = .ok (.invokevirtual 115, 3) := by decide +kernel
theorem dX9_pageIsAim_70 : decode cX9_pageIsAim 70 = .ok (.istore_n 1, 1) := by decide +kernel
theorem dX9_pageIsAim_71 : decode cX9_pageIsAim 71 = .ok (.iconst 1, 1) := by decide +kernel
theorem dX9_pageIsAim_72 : decode cX9_pageIsAim 72 = .ok (.istore_n 2, 1) := by decide +kernel
theorem dX9_pageIsAim_73 : decode cX9_pageIsAim 73 = .ok (.iload_n 2, 1) := by decide +kernel
theorem dX9_pageIsAim_74 : decode cX9_pageIsAim 74 = .ok (.iconst 3, 1) := by decide +kernel
theorem dX9_pageIsAim_75 : decode cX9_pageIsAim 75 = .ok (.if_icmp .gt 30, 3) := by decide +kernel
theorem dX9_pageIsAim_78 : decode cX9_pageIsAim 78 = .ok (.iload_n 1, 1) := by decide +kernel
theorem dX9_pageIsAim_79 : decode cX9_pageIsAim 79 = .ok (.iload_n 2, 1) := by decide +kernel
theorem dX9_pageIsAim_80 : decode cX9_pageIsAim 80 = .ok (.invokestatic 270, 3) := by decide +kernel
theorem dX9_pageIsAim_83 : decode cX9_pageIsAim 83 = .ok (.aload_n 0, 1) := by decide +kernel
theorem dX9_pageIsAim_84 : decode cX9_pageIsAim 84 = .ok (.getfield 74, 3) := by decide +kernel
theorem dX9_pageIsAim_87 : decode cX9_pageIsAim 87 = .ok (.getfield 123, 3) := by decide +kernel
theorem dX9_pageIsAim_90 : decode cX9_pageIsAim 90 = .ok (.iload_n 2, 1) := by decide +kernel
theorem dX9_pageIsAim_91 : decode cX9_pageIsAim 91 = .ok (.invokestatic 270, 3) := by decide +kernel
theorem dX9_pageIsAim_94 : decode cX9_pageIsAim 94 = .ok (.if_icmp .eq 5, 3) := by decide +kernel
theorem dX9_pageIsAim_97 : decode cX9_pageIsAim 97 = .ok (.iconst 0, 1) := by decide +kernel
theorem dX9_pageIsAim_98 : decode cX9_pageIsAim 98 = .ok (.ireturn, 1) := by decide +kernel
theorem dX9_pageIsAim_99 : decode cX9_pageIsAim 99 = .ok (.iinc 2 1, 3) := by decide +kernel
theorem dX9_pageIsAim_102 : decode cX9_pageIsAim 102 = .ok (.goto (-29), 3) := by decide +kernel
theorem dX9_pageIsAim_105 : decode cX9_pageIsAim 105 = .ok (.iconst 1, 1) := by decide +kernel
theorem dX9_pageIsAim_106 : decode cX9_pageIsAim 106 = .ok (.ireturn, 1) := by decide +kernel
theorem dX9_kindAt_0 : decode cX9_kindAt 0 = .ok (.iload_n 0, 1) := by decide +kernel
theorem dX9_kindAt_1 : decode cX9_kindAt 1 = .ok (.iconst 2, 1) := by decide +kernel
theorem dX9_kindAt_2 : decode cX9_kindAt 2 = .ok (.iload_n 1, 1) := by decide +kernel
theorem dX9_kindAt_3 : decode cX9_kindAt 3 = .ok (.imul, 1) := by decide +kernel
theorem dX9_kindAt_4 : decode cX9_kindAt 4 = .ok (.ishr, 1) := by decide +kernel
theorem dX9_kindAt_5 : decode cX9_kindAt 5 = .ok (.iconst 3, 1) := by decide +kernel
theorem dX9_kindAt_6 : decode cX9_kindAt 6 = .ok (.iand, 1) := by decide +kernel
theorem dX9_kindAt_7 : decode cX9_kindAt 7 = .ok (.ireturn, 1) := by decide +kernel
set_option maxRecDepth 20000 in
theorem ggX9_kindToldOf_X9_kindAt : GoodIn wsX9_kindToldOf wsX9_kindAt := goodIn_r _ [4] (by decide +kernel) (by decide +kernel)
set_option maxRecDepth 20000 in
theorem gX9_kindToldOf_X9_kindAt : GoodIn wsX9_kindToldOf (va_wsS RX9 166 yX9_kindAt wsX9_kindAt) := goodIn_app (goodIn_of _ (by decide +kernel)) ggX9_kindToldOf_X9_kindAt
theorem dX9_kindToldOf_0 : decode cX9_kindToldOf 0 = .ok (.iload_n 0, 1) := by decide +kernel
theorem dX9_kindToldOf_1 : decode cX9_kindToldOf 1 = .ok (.iload_n 1, 1) := by decide +kernel
theorem dX9_kindToldOf_2 : decode cX9_kindToldOf 2 = .ok (.invokestatic 166, 3) := by decide +kernel
theorem dX9_kindToldOf_5 : decode cX9_kindToldOf 5 = .ok (.istore_n 2, 1) := by decide +kernel
theorem dX9_kindToldOf_6 : decode cX9_kindToldOf 6 = .ok (.iload_n 2, 1) := by decide +kernel
theorem dX9_kindToldOf_7 : decode cX9_kindToldOf 7 = .ok (.ifCond .ne 7, 3) := by decide +kernel
theorem dX9_kindToldOf_10 : decode cX9_kindToldOf 10 = .ok (.iconst (-1), 1) := by decide +kernel
theorem dX9_kindToldOf_11 : decode cX9_kindToldOf 11 = .ok (.goto 4, 3) := by decide +kernel
theorem dX9_kindToldOf_14 : decode cX9_kindToldOf 14 = .ok (.iload_n 2, 1) := by decide +kernel
theorem dX9_kindToldOf_15 : decode cX9_kindToldOf 15 = .ok (.ireturn, 1) := by decide +kernel
set_option maxRecDepth 20000 in
theorem ggX9_afterMove_X9_kindAt : GoodIn wsX9_afterMove wsX9_kindAt := goodIn_r _ [4] (by decide +kernel) (by decide +kernel)
set_option maxRecDepth 20000 in
theorem gX9_afterMove_X9_kindAt : GoodIn wsX9_afterMove (va_wsS RX9 166 yX9_kindAt wsX9_kindAt) := goodIn_app (goodIn_of _ (by decide +kernel)) ggX9_afterMove_X9_kindAt
theorem dX9_afterMove_0 : decode cX9_afterMove 0 = .ok (.iload_n 0, 1) := by decide +kernel
theorem dX9_afterMove_1 : decode cX9_afterMove 1 = .ok (.iload_n 1, 1) := by decide +kernel
theorem dX9_afterMove_2 : decode cX9_afterMove 2 = .ok (.invokestatic 166, 3) := by decide +kernel
theorem dX9_afterMove_5 : decode cX9_afterMove 5 = .ok (.istore_n 3, 1) := by decide +kernel
theorem dX9_afterMove_6 : decode cX9_afterMove 6 = .ok (.iload_n 0, 1) := by decide +kernel
theorem dX9_afterMove_7 : decode cX9_afterMove 7 = .ok (.iload_n 3, 1) := by decide +kernel
theorem dX9_afterMove_8 : decode cX9_afterMove 8 = .ok (.iconst 2, 1) := by decide +kernel
theorem dX9_afterMove_9 : decode cX9_afterMove 9 = .ok (.iload_n 1, 1) := by decide +kernel
theorem dX9_afterMove_10 : decode cX9_afterMove 10 = .ok (.imul, 1) := by decide +kernel
theorem dX9_afterMove_11 : decode cX9_afterMove 11 = .ok (.ishl, 1) := by decide +kernel
theorem dX9_afterMove_12 : decode cX9_afterMove 12 = .ok (.isub, 1) := by decide +kernel
theorem dX9_afterMove_13 : decode cX9_afterMove 13 = .ok (.iload_n 3, 1) := by decide +kernel
theorem dX9_afterMove_14 : decode cX9_afterMove 14 = .ok (.iconst 2, 1) := by decide +kernel
theorem dX9_afterMove_15 : decode cX9_afterMove 15 = .ok (.iload_n 2, 1) := by decide +kernel
theorem dX9_afterMove_16 : decode cX9_afterMove 16 = .ok (.imul, 1) := by decide +kernel
theorem dX9_afterMove_17 : decode cX9_afterMove 17 = .ok (.ishl, 1) := by decide +kernel
theorem dX9_afterMove_18 : decode cX9_afterMove 18 = .ok (.iadd, 1) := by decide +kernel
theorem dX9_afterMove_19 : decode cX9_afterMove 19 = .ok (.ireturn, 1) := by decide +kernel
theorem dX9_isOfKind_0 : decode cX9_isOfKind 0 = .ok (.iload_n 0, 1) := by decide +kernel
theorem dX9_isOfKind_1 : decode cX9_isOfKind 1 = .ok (.ifCond .ne 5, 3) := by decide +kernel
theorem dX9_isOfKind_4 : decode cX9_isOfKind 4 = .ok (.iconst 0, 1) := by decide +kernel
theorem dX9_isOfKind_5 : decode cX9_isOfKind 5 = .ok (.ireturn, 1) := by decide +kernel
theorem dX9_isOfKind_6 : decode cX9_isOfKind 6 = .ok (.iload_n 1, 1) := by decide +kernel
theorem dX9_isOfKind_7 : decode cX9_isOfKind 7 = .ok (.ifCond .eq 18, 3) := by decide +kernel
theorem dX9_isOfKind_10 : decode cX9_isOfKind 10 = .ok (.iload_n 0, 1) := by decide +kernel
theorem dX9_isOfKind_11 : decode cX9_isOfKind 11 = .ok (.iload_n 1, 1) := by decide +kernel
theorem dX9_isOfKind_12 : decode cX9_isOfKind 12 = .ok (.if_icmp .eq 13, 3) := by decide +kernel
theorem dX9_isOfKind_15 : decode cX9_isOfKind 15 = .ok (.iload_n 0, 1) := by decide +kernel
theorem dX9_isOfKind_16 : decode cX9_isOfKind 16 = .ok (.iconst 3, 1) := by decide +kernel
theorem dX9_isOfKind_17 : decode cX9_isOfKind 17 = .ok (.if_icmp .ne 12, 3) := by decide +kernel
theorem dX9_isOfKind_20 : decode cX9_isOfKind 20 = .ok (.iload_n 1, 1) := by decide +kernel
theorem dX9_isOfKind_21 : decode cX9_isOfKind 21 = .ok (.iconst 1, 1) := by decide +kernel
theorem dX9_isOfKind_22 : decode cX9_isOfKind 22 = .ok (.if_icmp .ne 7, 3) := by decide +kernel
theorem dX9_isOfKind_25 : decode cX9_isOfKind 25 = .ok (.iconst 1, 1) := by decide +kernel
theorem dX9_isOfKind_26 : decode cX9_isOfKind 26 = .ok (.goto 4, 3) := by decide +kernel
theorem dX9_isOfKind_29 : decode cX9_isOfKind 29 = .ok (.iconst 0, 1) := by decide +kernel
theorem dX9_isOfKind_30 : decode cX9_isOfKind 30 = .ok (.ireturn, 1) := by decide +kernel
theorem dX9_goesOn_0 : decode cX9_goesOn 0 = .ok (.iload_n 0, 1) := by decide +kernel
theorem dX9_goesOn_1 : decode cX9_goesOn 1 = .ok (.iconst 1, 1) := by decide +kernel
theorem dX9_goesOn_2 : decode cX9_goesOn 2 = .ok (.iand, 1) := by decide +kernel
theorem dX9_goesOn_3 : decode cX9_goesOn 3 = .ok (.ifCond .eq 7, 3) := by decide +kernel
theorem dX9_goesOn_6 : decode cX9_goesOn 6 = .ok (.iconst 1, 1) := by decide +kernel
theorem dX9_goesOn_7 : decode cX9_goesOn 7 = .ok (.goto 4, 3) := by decide +kernel
theorem dX9_goesOn_10 : decode cX9_goesOn 10 = .ok (.iconst 0, 1) := by decide +kernel
theorem dX9_goesOn_11 : decode cX9_goesOn 11 = .ok (.ireturn, 1) := by decide +kernel
theorem dX9_goesBack_0 : decode cX9_goesBack 0 = .ok (.iload_n 0, 1) := by decide +kernel
theorem dX9_goesBack_1 : decode cX9_goesBack 1 = .ok (.iconst 2, 1) := by decide +kernel
theorem dX9_goesBack_2 : decode cX9_goesBack 2 = .ok (.iand, 1) := by decide +kernel
theorem dX9_goesBack_3 : decode cX9_goesBack 3 = .ok (.ifCond .eq 7, 3) := by decide +kernel
theorem dX9_goesBack_6 : decode cX9_goesBack 6 = .ok (.iconst 1, 1) := by decide +kernel
theorem dX9_goesBack_7 : decode cX9_goesBack 7 = .ok (.goto 4, 3) := by decide +kernel
theorem dX9_goesBack_10 : decode cX9_goesBack 10 = .ok (.iconst 0, 1) := by decide +kernel
theorem dX9_goesBack_11 : decode cX9_goesBack 11 = .ok (.ireturn, 1) := by decide +kernel
set_option maxRecDepth 20000 in
theorem ggX9_colouredOf_X9_kindAt : GoodIn wsX9_colouredOf wsX9_kindAt := goodIn_r _ [4] (by decide +kernel) (by decide +kernel)
set_option maxRecDepth 20000 in
theorem gX9_colouredOf_X9_kindAt : GoodIn wsX9_colouredOf (va_wsS RX9 166 yX9_kindAt wsX9_kindAt) := goodIn_app (goodIn_of _ (by decide +kernel)) ggX9_colouredOf_X9_kindAt
theorem dX9_colouredOf_0 : decode cX9_colouredOf 0 = .ok (.iconst 0, 1) := by decide +kernel
theorem dX9_colouredOf_1 : decode cX9_colouredOf 1 = .ok (.istore_n 2, 1) := by decide +kernel
theorem dX9_colouredOf_2 : decode cX9_colouredOf 2 = .ok (.iconst 0, 1) := by decide +kernel
theorem dX9_colouredOf_3 : decode cX9_colouredOf 3 = .ok (.istore_n 3, 1) := by decide +kernel
theorem dX9_colouredOf_4 : decode cX9_colouredOf 4 = .ok (.iload_n 3, 1) := by decide +kernel
theorem dX9_colouredOf_5 : decode cX9_colouredOf 5 = .ok (.bipush 9, 2) := by decide +kernel
theorem dX9_colouredOf_7 : decode cX9_colouredOf 7 = .ok (.if_icmp .ge 21, 3) := by decide +kernel
theorem dX9_colouredOf_10 : decode cX9_colouredOf 10 = .ok (.iload_n 0, 1) := by decide +kernel
theorem dX9_colouredOf_11 : decode cX9_colouredOf 11 = .ok (.iload_n 3, 1) := by decide +kernel
theorem dX9_colouredOf_12 : decode cX9_colouredOf 12 = .ok (.invokestatic 166, 3) := by decide +kernel
theorem dX9_colouredOf_15 : decode cX9_colouredOf 15 = .ok (.iload_n 1, 1) := by decide +kernel
theorem dX9_colouredOf_16 : decode cX9_colouredOf 16 = .ok (.if_icmp .ne 6, 3) := by decide +kernel
theorem dX9_colouredOf_19 : decode cX9_colouredOf 19 = .ok (.iinc 2 1, 3) := by decide +kernel
theorem dX9_colouredOf_22 : decode cX9_colouredOf 22 = .ok (.iinc 3 1, 3) := by decide +kernel
theorem dX9_colouredOf_25 : decode cX9_colouredOf 25 = .ok (.goto (-21), 3) := by decide +kernel
theorem dX9_colouredOf_28 : decode cX9_colouredOf 28 = .ok (.iload_n 2, 1) := by decide +kernel
theorem dX9_colouredOf_29 : decode cX9_colouredOf 29 = .ok (.ireturn, 1) := by decide +kernel
set_option maxRecDepth 20000 in
theorem ggX9_frogsOf_X9_colouredOf : GoodIn wsX9_frogsOf wsX9_colouredOf := goodIn_r _ [4, 5, 6, 3, 7] (by decide +kernel) (by decide +kernel)
set_option maxRecDepth 20000 in
theorem gX9_frogsOf_X9_colouredOf : GoodIn wsX9_frogsOf (va_wsS RX9 270 yX9_colouredOf wsX9_colouredOf) := goodIn_app (goodIn_of _ (by decide +kernel)) ggX9_frogsOf_X9_colouredOf
theorem dX9_frogsOf_0 : decode cX9_frogsOf 0 = .ok (.bipush 9, 2) := by decide +kernel
theorem dX9_frogsOf_2 : decode cX9_frogsOf 2 = .ok (.iload_n 0, 1) := by decide +kernel
theorem dX9_frogsOf_3 : decode cX9_frogsOf 3 = .ok (.iconst 0, 1) := by decide +kernel
theorem dX9_frogsOf_4 : decode cX9_frogsOf 4 = .ok (.invokestatic 270, 3) := by decide +kernel
theorem dX9_frogsOf_7 : decode cX9_frogsOf 7 = .ok (.isub, 1) := by decide +kernel
theorem dX9_frogsOf_8 : decode cX9_frogsOf 8 = .ok (.ireturn, 1) := by decide +kernel
theorem dX9_kindOfLetter_0 : decode cX9_kindOfLetter 0 = .ok (.iload_n 0, 1) := by decide +kernel
theorem dX9_kindOfLetter_1 : decode cX9_kindOfLetter 1 = .ok (.lookupswitch 51 #[(46, 43), (98, 47), (103, 45), (121, 49)], 43) := by decide +kernel
theorem dX9_kindOfLetter_44 : decode cX9_kindOfLetter 44 = .ok (.iconst 0, 1) := by decide +kernel
theorem dX9_kindOfLetter_45 : decode cX9_kindOfLetter 45 = .ok (.ireturn, 1) := by decide +kernel
theorem dX9_kindOfLetter_46 : decode cX9_kindOfLetter 46 = .ok (.iconst 1, 1) := by decide +kernel
theorem dX9_kindOfLetter_47 : decode cX9_kindOfLetter 47 = .ok (.ireturn, 1) := by decide +kernel
theorem dX9_kindOfLetter_48 : decode cX9_kindOfLetter 48 = .ok (.iconst 2, 1) := by decide +kernel
theorem dX9_kindOfLetter_49 : decode cX9_kindOfLetter 49 = .ok (.ireturn, 1) := by decide +kernel
theorem dX9_kindOfLetter_50 : decode cX9_kindOfLetter 50 = .ok (.iconst 3, 1) := by decide +kernel
theorem dX9_kindOfLetter_51 : decode cX9_kindOfLetter 51 = .ok (.ireturn, 1) := by decide +kernel
theorem dX9_kindOfLetter_52 : decode cX9_kindOfLetter 52 = .ok (.iconst (-1), 1) := by decide +kernel
theorem dX9_kindOfLetter_53 : decode cX9_kindOfLetter 53 = .ok (.ireturn, 1) := by decide +kernel
theorem dX9_power_0 : decode cX9_power 0 = .ok (.iconst 1, 1) := by decide +kernel
theorem dX9_power_1 : decode cX9_power 1 = .ok (.istore_n 2, 1) := by decide +kernel
theorem dX9_power_2 : decode cX9_power 2 = .ok (.iconst 0, 1) := by decide +kernel
theorem dX9_power_3 : decode cX9_power 3 = .ok (.istore_n 3, 1) := by decide +kernel
theorem dX9_power_4 : decode cX9_power 4 = .ok (.iload_n 3, 1) := by decide +kernel
theorem dX9_power_5 : decode cX9_power 5 = .ok (.iload_n 1, 1) := by decide +kernel
theorem dX9_power_6 : decode cX9_power 6 = .ok (.if_icmp .ge 13, 3) := by decide +kernel
theorem dX9_power_9 : decode cX9_power 9 = .ok (.iload_n 2, 1) := by decide +kernel
theorem dX9_power_10 : decode cX9_power 10 = .ok (.iload_n 0, 1) := by decide +kernel
theorem dX9_power_11 : decode cX9_power 11 = .ok (.imul, 1) := by decide +kernel
theorem dX9_power_12 : decode cX9_power 12 = .ok (.istore_n 2, 1) := by decide +kernel
theorem dX9_power_13 : decode cX9_power 13 = .ok (.iinc 3 1, 3) := by decide +kernel
theorem dX9_power_16 : decode cX9_power 16 = .ok (.goto (-12), 3) := by decide +kernel
theorem dX9_power_19 : decode cX9_power 19 = .ok (.iload_n 2, 1) := by decide +kernel
theorem dX9_power_20 : decode cX9_power 20 = .ok (.ireturn, 1) := by decide +kernel
theorem dX9_fillFirst_0 : decode cX9_fillFirst 0 = .ok (.iconst 0, 1) := by decide +kernel
theorem dX9_fillFirst_1 : decode cX9_fillFirst 1 = .ok (.istore_n 3, 1) := by decide +kernel
theorem dX9_fillFirst_2 : decode cX9_fillFirst 2 = .ok (.iload_n 3, 1) := by decide +kernel
theorem dX9_fillFirst_3 : decode cX9_fillFirst 3 = .ok (.iload_n 1, 1) := by decide +kernel
theorem dX9_fillFirst_4 : decode cX9_fillFirst 4 = .ok (.if_icmp .ge 19, 3) := by decide +kernel
theorem dX9_fillFirst_7 : decode cX9_fillFirst 7 = .ok (.iload_n 3, 1) := by decide +kernel
theorem dX9_fillFirst_8 : decode cX9_fillFirst 8 = .ok (.aload_n 0, 1) := by decide +kernel
theorem dX9_fillFirst_9 : decode cX9_fillFirst 9 = .ok (.arraylength, 1) := by decide +kernel
theorem dX9_fillFirst_10 : decode cX9_fillFirst 10 = .ok (.if_icmp .ge 13, 3) := by decide +kernel
theorem dX9_fillFirst_13 : decode cX9_fillFirst 13 = .ok (.aload_n 0, 1) := by decide +kernel
theorem dX9_fillFirst_14 : decode cX9_fillFirst 14 = .ok (.iload_n 3, 1) := by decide +kernel
theorem dX9_fillFirst_15 : decode cX9_fillFirst 15 = .ok (.iload_n 2, 1) := by decide +kernel
theorem dX9_fillFirst_16 : decode cX9_fillFirst 16 = .ok (.iastore, 1) := by decide +kernel
theorem dX9_fillFirst_17 : decode cX9_fillFirst 17 = .ok (.iinc 3 1, 3) := by decide +kernel
theorem dX9_fillFirst_20 : decode cX9_fillFirst 20 = .ok (.goto (-18), 3) := by decide +kernel
theorem dX9_fillFirst_23 : decode cX9_fillFirst 23 = .ok (.return_, 1) := by decide +kernel
theorem dX9_greatestShared_0 : decode cX9_greatestShared 0 = .ok (.iload_n 0, 1) := by decide +kernel
theorem dX9_greatestShared_1 : decode cX9_greatestShared 1 = .ok (.istore_n 2, 1) := by decide +kernel
theorem dX9_greatestShared_2 : decode cX9_greatestShared 2 = .ok (.iload_n 1, 1) := by decide +kernel
theorem dX9_greatestShared_3 : decode cX9_greatestShared 3 = .ok (.istore_n 3, 1) := by decide +kernel
theorem dX9_greatestShared_4 : decode cX9_greatestShared 4 = .ok (.iconst 0, 1) := by decide +kernel
theorem dX9_greatestShared_5 : decode cX9_greatestShared 5 = .ok (.istore 4, 2) := by decide +kernel
theorem dX9_greatestShared_7 : decode cX9_greatestShared 7 = .ok (.iload 4, 2) := by decide +kernel
theorem dX9_greatestShared_9 : decode cX9_greatestShared 9 = .ok (.bipush 64, 2) := by decide +kernel
theorem dX9_greatestShared_11 : decode cX9_greatestShared 11 = .ok (.if_icmp .ge 23, 3) := by decide +kernel
theorem dX9_greatestShared_14 : decode cX9_greatestShared 14 = .ok (.iload_n 3, 1) := by decide +kernel
theorem dX9_greatestShared_15 : decode cX9_greatestShared 15 = .ok (.ifCond .eq 19, 3) := by decide +kernel
theorem dX9_greatestShared_18 : decode cX9_greatestShared 18 = .ok (.iload_n 2, 1) := by decide +kernel
theorem dX9_greatestShared_19 : decode cX9_greatestShared 19 = .ok (.iload_n 3, 1) := by decide +kernel
theorem dX9_greatestShared_20 : decode cX9_greatestShared 20 = .ok (.irem, 1) := by decide +kernel
theorem dX9_greatestShared_21 : decode cX9_greatestShared 21 = .ok (.istore 5, 2) := by decide +kernel
theorem dX9_greatestShared_23 : decode cX9_greatestShared 23 = .ok (.iload_n 3, 1) := by decide +kernel
theorem dX9_greatestShared_24 : decode cX9_greatestShared 24 = .ok (.istore_n 2, 1) := by decide +kernel
theorem dX9_greatestShared_25 : decode cX9_greatestShared 25 = .ok (.iload 5, 2) := by decide +kernel
theorem dX9_greatestShared_27 : decode cX9_greatestShared 27 = .ok (.istore_n 3, 1) := by decide +kernel
theorem dX9_greatestShared_28 : decode cX9_greatestShared 28 = .ok (.iinc 4 1, 3) := by decide +kernel
theorem dX9_greatestShared_31 : decode cX9_greatestShared 31 = .ok (.goto (-24), 3) := by decide +kernel
theorem dX9_greatestShared_34 : decode cX9_greatestShared 34 = .ok (.iload_n 2, 1) := by decide +kernel
theorem dX9_greatestShared_35 : decode cX9_greatestShared 35 = .ok (.ireturn, 1) := by decide +kernel
theorem dX10_init_0 : decode cX10_init 0 = .ok (.aload_n 0, 1) := by decide +kernel
theorem dX10_init_1 : decode cX10_init 1 = .ok (.invokespecial 1, 3) := by decide +kernel
theorem dX10_init_4 : decode cX10_init 4 = .ok (.aload_n 0, 1) := by decide +kernel
theorem dX10_init_5 : decode cX10_init 5 = .ok (.bipush 24, 2) := by decide +kernel
theorem dX10_init_7 : decode cX10_init 7 = .ok (.newarray .int, 2) := by decide +kernel
theorem dX10_init_9 : decode cX10_init 9 = .ok (.putfield 7, 3) := by decide +kernel
theorem dX10_init_12 : decode cX10_init 12 = .ok (.aload_n 0, 1) := by decide +kernel
theorem dX10_init_13 : decode cX10_init 13 = .ok (.bipush 9, 2) := by decide +kernel
theorem dX10_init_15 : decode cX10_init 15 = .ok (.newarray .int, 2) := by decide +kernel
theorem dX10_init_17 : decode cX10_init 17 = .ok (.putfield 13, 3) := by decide +kernel
theorem dX10_init_20 : decode cX10_init 20 = .ok (.aload_n 0, 1) := by decide +kernel
theorem dX10_init_21 : decode cX10_init 21 = .ok (.bipush 9, 2) := by decide +kernel
theorem dX10_init_23 : decode cX10_init 23 = .ok (.newarray .int, 2) := by decide +kernel
theorem dX10_init_25 : decode cX10_init 25 = .ok (.putfield 16, 3) := by decide +kernel
theorem dX10_init_28 : decode cX10_init 28 = .ok (.aload_n 0, 1) := by decide +kernel
theorem dX10_init_29 : decode cX10_init 29 = .ok (.bipush 120, 2) := by decide +kernel
theorem dX10_init_31 : decode cX10_init 31 = .ok (.newarray .int, 2) := by decide +kernel
theorem dX10_init_33 : decode cX10_init 33 = .ok (.putfield 19, 3) := by decide +kernel
theorem dX10_init_36 : decode cX10_init 36 = .ok (.aload_n 0, 1) := by decide +kernel
theorem dX10_init_37 : decode cX10_init 37 = .ok (.ldc 22, 2) := by decide +kernel
theorem dX10_init_39 : decode cX10_init 39 = .ok (.newarray .int, 2) := by decide +kernel
theorem dX10_init_41 : decode cX10_init 41 = .ok (.putfield 23, 3) := by decide +kernel
theorem dX10_init_44 : decode cX10_init 44 = .ok (.aload_n 0, 1) := by decide +kernel
theorem dX10_init_45 : decode cX10_init 45 = .ok (.sipush 7560, 3) := by decide +kernel
theorem dX10_init_48 : decode cX10_init 48 = .ok (.newarray .int, 2) := by decide +kernel
theorem dX10_init_50 : decode cX10_init 50 = .ok (.putfield 26, 3) := by decide +kernel
theorem dX10_init_53 : decode cX10_init 53 = .ok (.aload_n 0, 1) := by decide +kernel
theorem dX10_init_54 : decode cX10_init 54 = .ok (.sipush 7560, 3) := by decide +kernel
theorem dX10_init_57 : decode cX10_init 57 = .ok (.newarray .int, 2) := by decide +kernel
theorem dX10_init_59 : decode cX10_init 59 = .ok (.putfield 29, 3) := by decide +kernel
theorem dX10_init_62 : decode cX10_init 62 = .ok (.aload_n 0, 1) := by decide +kernel
theorem dX10_init_63 : decode cX10_init 63 = .ok (.sipush 7560, 3) := by decide +kernel
theorem dX10_init_66 : decode cX10_init 66 = .ok (.newarray .long, 2) := by decide +kernel
theorem dX10_init_68 : decode cX10_init 68 = .ok (.putfield 32, 3) := by decide +kernel
theorem dX10_init_71 : decode cX10_init 71 = .ok (.aload_n 0, 1) := by decide +kernel
theorem dX10_init_72 : decode cX10_init 72 = .ok (.sipush 7560, 3) := by decide +kernel
theorem dX10_init_75 : decode cX10_init 75 = .ok (.newarray .int, 2) := by decide +kernel
theorem dX10_init_77 : decode cX10_init 77 = .ok (.putfield 36, 3) := by decide +kernel
theorem dX10_init_80 : decode cX10_init 80 = .ok (.aload_n 0, 1) := by decide +kernel
theorem dX10_init_81 : decode cX10_init 81 = .ok (.sipush 7560, 3) := by decide +kernel
theorem dX10_init_84 : decode cX10_init 84 = .ok (.newarray .int, 2) := by decide +kernel
theorem dX10_init_86 : decode cX10_init 86 = .ok (.putfield 39, 3) := by decide +kernel
theorem dX10_init_89 : decode cX10_init 89 = .ok (.aload_n 0, 1) := by decide +kernel
theorem dX10_init_90 : decode cX10_init 90 = .ok (.sipush 7560, 3) := by decide +kernel
theorem dX10_init_93 : decode cX10_init 93 = .ok (.newarray .int, 2) := by decide +kernel
theorem dX10_init_95 : decode cX10_init 95 = .ok (.putfield 42, 3) := by decide +kernel
theorem dX10_init_98 : decode cX10_init 98 = .ok (.aload_n 0, 1) := by decide +kernel
theorem dX10_init_99 : decode cX10_init 99 = .ok (.bipush 120, 2) := by decide +kernel
theorem dX10_init_101 : decode cX10_init 101 = .ok (.newarray .int, 2) := by decide +kernel
theorem dX10_init_103 : decode cX10_init 103 = .ok (.putfield 45, 3) := by decide +kernel
theorem dX10_init_106 : decode cX10_init 106 = .ok (.aload_n 0, 1) := by decide +kernel
theorem dX10_init_107 : decode cX10_init 107 = .ok (.iconst (-1), 1) := by decide +kernel
theorem dX10_init_108 : decode cX10_init 108 = .ok (.putfield 48, 3) := by decide +kernel
theorem dX10_init_111 : decode cX10_init 111 = .ok (.aload_n 0, 1) := by decide +kernel
theorem dX10_init_112 : decode cX10_init 112 = .ok (.iconst (-1), 1) := by decide +kernel
theorem dX10_init_113 : decode cX10_init 113 = .ok (.putfield 52, 3) := by decide +kernel
theorem dX10_init_116 : decode cX10_init 116 = .ok (.return_, 1) := by decide +kernel
theorem dX10_in_0 : decode cX10_in 0 = .ok (.lload_n 0, 1) := by decide +kernel
theorem dX10_in_1 : decode cX10_in 1 = .ok (.lload_n 2, 1) := by decide +kernel
theorem dX10_in_2 : decode cX10_in 2 = .ok (.lcmp, 1) := by decide +kernel
theorem dX10_in_3 : decode cX10_in 3 = .ok (.ifCond .lt 14, 3) := by decide +kernel
theorem dX10_in_6 : decode cX10_in 6 = .ok (.lload_n 0, 1) := by decide +kernel
theorem dX10_in_7 : decode cX10_in 7 = .ok (.lload 4, 2) := by decide +kernel
theorem dX10_in_9 : decode cX10_in 9 = .ok (.lcmp, 1) := by decide +kernel
theorem dX10_in_10 : decode cX10_in 10 = .ok (.ifCond .gt 7, 3) := by decide +kernel
theorem dX10_in_13 : decode cX10_in 13 = .ok (.iconst 1, 1) := by decide +kernel
theorem dX10_in_14 : decode cX10_in 14 = .ok (.goto 4, 3) := by decide +kernel
theorem dX10_in_17 : decode cX10_in 17 = .ok (.iconst 0, 1) := by decide +kernel
theorem dX10_in_18 : decode cX10_in 18 = .ok (.ireturn, 1) := by decide +kernel
theorem dX10_letters_0 : decode cX10_letters 0 = .ok (.iconst 0, 1) := by decide +kernel
theorem dX10_letters_1 : decode cX10_letters 1 = .ok (.istore_n 3, 1) := by decide +kernel
theorem dX10_letters_2 : decode cX10_letters 2 = .ok (.iconst 1, 1) := by decide +kernel
theorem dX10_letters_3 : decode cX10_letters 3 = .ok (.istore 4, 2) := by decide +kernel
theorem dX10_letters_5 : decode cX10_letters 5 = .ok (.lload_n 1, 1) := by decide +kernel
theorem dX10_letters_6 : decode cX10_letters 6 = .ok (.lstore 5, 2) := by decide +kernel
theorem dX10_letters_8 : decode cX10_letters 8 = .ok (.iconst 0, 1) := by decide +kernel
theorem dX10_letters_9 : decode cX10_letters 9 = .ok (.istore 7, 2) := by decide +kernel
theorem dX10_letters_11 : decode cX10_letters 11 = .ok (.iload 7, 2) := by decide +kernel
theorem dX10_letters_13 : decode cX10_letters 13 = .ok (.bipush 8, 2) := by decide +kernel
theorem dX10_letters_15 : decode cX10_letters 15 = .ok (.if_icmp .ge 68, 3) := by decide +kernel
theorem dX10_letters_18 : decode cX10_letters 18 = .ok (.lload 5, 2) := by decide +kernel
theorem dX10_letters_20 : decode cX10_letters 20 = .ok (.ldc2_w 55, 3) := by decide +kernel
theorem dX10_letters_23 : decode cX10_letters 23 = .ok (.land, 1) := by decide +kernel
theorem dX10_letters_24 : decode cX10_letters 24 = .ok (.l2i, 1) := by decide +kernel
theorem dX10_letters_25 : decode cX10_letters 25 = .ok (.istore 8, 2) := by decide +kernel
theorem dX10_letters_27 : decode cX10_letters 27 = .ok (.lload 5, 2) := by decide +kernel
theorem dX10_letters_29 : decode cX10_letters 29 = .ok (.bipush 8, 2) := by decide +kernel
theorem dX10_letters_31 : decode cX10_letters 31 = .ok (.lushr, 1) := by decide +kernel
theorem dX10_letters_32 : decode cX10_letters 32 = .ok (.lstore 5, 2) := by decide +kernel
theorem dX10_letters_34 : decode cX10_letters 34 = .ok (.iload 4, 2) := by decide +kernel
theorem dX10_letters_36 : decode cX10_letters 36 = .ok (.ifCond .eq 25, 3) := by decide +kernel
theorem dX10_letters_39 : decode cX10_letters 39 = .ok (.iload 8, 2) := by decide +kernel
theorem dX10_letters_41 : decode cX10_letters 41 = .ok (.bipush 126, 2) := by decide +kernel
theorem dX10_letters_43 : decode cX10_letters 43 = .ok (.if_icmp .gt 18, 3) := by decide +kernel
theorem dX10_letters_46 : decode cX10_letters 46 = .ok (.iload 8, 2) := by decide +kernel
theorem dX10_letters_48 : decode cX10_letters 48 = .ok (.ifCond .eq 9, 3) := by decide +kernel
theorem dX10_letters_51 : decode cX10_letters 51 = .ok (.iload_n 3, 1) := by decide +kernel
theorem dX10_letters_52 : decode cX10_letters 52 = .ok (.iload 7, 2) := by decide +kernel
theorem dX10_letters_54 : decode cX10_letters 54 = .ok (.if_icmp .ne 7, 3) := by decide +kernel
theorem dX10_letters_57 : decode cX10_letters 57 = .ok (.iconst 1, 1) := by decide +kernel
theorem dX10_letters_58 : decode cX10_letters 58 = .ok (.goto 4, 3) := by decide +kernel
theorem dX10_letters_61 : decode cX10_letters 61 = .ok (.iconst 0, 1) := by decide +kernel
theorem dX10_letters_62 : decode cX10_letters 62 = .ok (.istore 4, 2) := by decide +kernel
theorem dX10_letters_64 : decode cX10_letters 64 = .ok (.iload_n 3, 1) := by decide +kernel
theorem dX10_letters_65 : decode cX10_letters 65 = .ok (.iload 8, 2) := by decide +kernel
theorem dX10_letters_67 : decode cX10_letters 67 = .ok (.ifCond .le 7, 3) := by decide +kernel
theorem dX10_letters_70 : decode cX10_letters 70 = .ok (.iconst 1, 1) := by decide +kernel
theorem dX10_letters_71 : decode cX10_letters 71 = .ok (.goto 4, 3) := by decide +kernel
theorem dX10_letters_74 : decode cX10_letters 74 = .ok (.iconst 0, 1) := by decide +kernel
theorem dX10_letters_75 : decode cX10_letters 75 = .ok (.iadd, 1) := by decide +kernel
theorem dX10_letters_76 : decode cX10_letters 76 = .ok (.istore_n 3, 1) := by decide +kernel
theorem dX10_letters_77 : decode cX10_letters 77 = .ok (.iinc 7 1, 3) := by decide +kernel
theorem dX10_letters_80 : decode cX10_letters 80 = .ok (.goto (-69), 3) := by decide +kernel
theorem dX10_letters_83 : decode cX10_letters 83 = .ok (.iload 4, 2) := by decide +kernel
theorem dX10_letters_85 : decode cX10_letters 85 = .ok (.ifCond .ne 6, 3) := by decide +kernel
theorem dX10_letters_88 : decode cX10_letters 88 = .ok (.bipush (-102), 2) := by decide +kernel
theorem dX10_letters_90 : decode cX10_letters 90 = .ok (.ireturn, 1) := by decide +kernel
theorem dX10_letters_91 : decode cX10_letters 91 = .ok (.aload_n 0, 1) := by decide +kernel
theorem dX10_letters_92 : decode cX10_letters 92 = .ok (.getfield 57, 3) := by decide +kernel
theorem dX10_letters_95 : decode cX10_letters 95 = .ok (.iload_n 3, 1) := by decide +kernel
theorem dX10_letters_96 : decode cX10_letters 96 = .ok (.iadd, 1) := by decide +kernel
theorem dX10_letters_97 : decode cX10_letters 97 = .ok (.bipush 24, 2) := by decide +kernel
theorem dX10_letters_99 : decode cX10_letters 99 = .ok (.if_icmp .le 6, 3) := by decide +kernel
theorem dX10_letters_102 : decode cX10_letters 102 = .ok (.bipush (-104), 2) := by decide +kernel
theorem dX10_letters_104 : decode cX10_letters 104 = .ok (.ireturn, 1) := by decide +kernel
theorem dX10_letters_105 : decode cX10_letters 105 = .ok (.iconst 0, 1) := by decide +kernel
theorem dX10_letters_106 : decode cX10_letters 106 = .ok (.istore 7, 2) := by decide +kernel
theorem dX10_letters_108 : decode cX10_letters 108 = .ok (.iload 7, 2) := by decide +kernel
theorem dX10_letters_110 : decode cX10_letters 110 = .ok (.iload_n 3, 1) := by decide +kernel
theorem dX10_letters_111 : decode cX10_letters 111 = .ok (.if_icmp .ge 40, 3) := by decide +kernel
theorem dX10_letters_114 : decode cX10_letters 114 = .ok (.aload_n 0, 1) := by decide +kernel
theorem dX10_letters_115 : decode cX10_letters 115 = .ok (.getfield 7, 3) := by decide +kernel
theorem dX10_letters_118 : decode cX10_letters 118 = .ok (.aload_n 0, 1) := by decide +kernel
theorem dX10_letters_119 : decode cX10_letters 119 = .ok (.getfield 57, 3) := by decide +kernel
theorem dX10_letters_122 : decode cX10_letters 122 = .ok (.lload_n 1, 1) := by decide +kernel
theorem dX10_letters_123 : decode cX10_letters 123 = .ok (.bipush 8, 2) := by decide +kernel
theorem dX10_letters_125 : decode cX10_letters 125 = .ok (.iload 7, 2) := by decide +kernel
theorem dX10_letters_127 : decode cX10_letters 127 = .ok (.imul, 1) := by decide +kernel
theorem dX10_letters_128 : decode cX10_letters 128 = .ok (.lushr, 1) := by decide +kernel
theorem dX10_letters_129 : decode cX10_letters 129 = .ok (.ldc2_w 55, 3) := by decide +kernel
theorem dX10_letters_132 : decode cX10_letters 132 = .ok (.land, 1) := by decide +kernel
theorem dX10_letters_133 : decode cX10_letters 133 = .ok (.l2i, 1) := by decide +kernel
theorem dX10_letters_134 : decode cX10_letters 134 = .ok (.iastore, 1) := by decide +kernel
theorem dX10_letters_135 : decode cX10_letters 135 = .ok (.aload_n 0, 1) := by decide +kernel
theorem dX10_letters_136 : decode cX10_letters 136 = .ok (.dup, 1) := by decide +kernel
theorem dX10_letters_137 : decode cX10_letters 137 = .ok (.getfield 57, 3) := by decide +kernel
theorem dX10_letters_140 : decode cX10_letters 140 = .ok (.iconst 1, 1) := by decide +kernel
theorem dX10_letters_141 : decode cX10_letters 141 = .ok (.iadd, 1) := by decide +kernel
theorem dX10_letters_142 : decode cX10_letters 142 = .ok (.putfield 57, 3) := by decide +kernel
theorem dX10_letters_145 : decode cX10_letters 145 = .ok (.iinc 7 1, 3) := by decide +kernel
theorem dX10_letters_148 : decode cX10_letters 148 = .ok (.goto (-40), 3) := by decide +kernel
theorem dX10_letters_151 : decode cX10_letters 151 = .ok (.aload_n 0, 1) := by decide +kernel
theorem dX10_letters_152 : decode cX10_letters 152 = .ok (.getfield 57, 3) := by decide +kernel
theorem dX10_letters_155 : decode cX10_letters 155 = .ok (.ireturn, 1) := by decide +kernel
theorem dX10_blank_0 : decode cX10_blank 0 = .ok (.aload_n 0, 1) := by decide +kernel
theorem dX10_blank_1 : decode cX10_blank 1 = .ok (.getfield 57, 3) := by decide +kernel
theorem dX10_blank_4 : decode cX10_blank 4 = .ok (.istore_n 1, 1) := by decide +kernel
theorem dX10_blank_5 : decode cX10_blank 5 = .ok (.aload_n 0, 1) := by decide +kernel
theorem dX10_blank_6 : decode cX10_blank 6 = .ok (.iconst 0, 1) := by decide +kernel
theorem dX10_blank_7 : decode cX10_blank 7 = .ok (.putfield 57, 3) := by decide +kernel
theorem dX10_blank_10 : decode cX10_blank 10 = .ok (.iload_n 1, 1) := by decide +kernel
theorem dX10_blank_11 : decode cX10_blank 11 = .ok (.ireturn, 1) := by decide +kernel
theorem dX10_kindOf_0 : decode cX10_kindOf 0 = .ok (.iload_n 0, 1) := by decide +kernel
theorem dX10_kindOf_1 : decode cX10_kindOf 1 = .ok (.bipush 46, 2) := by decide +kernel
theorem dX10_kindOf_3 : decode cX10_kindOf 3 = .ok (.if_icmp .ne 7, 3) := by decide +kernel
theorem dX10_kindOf_6 : decode cX10_kindOf 6 = .ok (.iconst 0, 1) := by decide +kernel
theorem dX10_kindOf_7 : decode cX10_kindOf 7 = .ok (.goto 34, 3) := by decide +kernel
theorem dX10_kindOf_10 : decode cX10_kindOf 10 = .ok (.iload_n 0, 1) := by decide +kernel
theorem dX10_kindOf_11 : decode cX10_kindOf 11 = .ok (.bipush 103, 2) := by decide +kernel
theorem dX10_kindOf_13 : decode cX10_kindOf 13 = .ok (.if_icmp .ne 7, 3) := by decide +kernel
theorem dX10_kindOf_16 : decode cX10_kindOf 16 = .ok (.iconst 1, 1) := by decide +kernel
theorem dX10_kindOf_17 : decode cX10_kindOf 17 = .ok (.goto 24, 3) := by decide +kernel
theorem dX10_kindOf_20 : decode cX10_kindOf 20 = .ok (.iload_n 0, 1) := by decide +kernel
theorem dX10_kindOf_21 : decode cX10_kindOf 21 = .ok (.bipush 98, 2) := by decide +kernel
theorem dX10_kindOf_23 : decode cX10_kindOf 23 = .ok (.if_icmp .ne 7, 3) := by decide +kernel
theorem dX10_kindOf_26 : decode cX10_kindOf 26 = .ok (.iconst 2, 1) := by decide +kernel
theorem dX10_kindOf_27 : decode cX10_kindOf 27 = .ok (.goto 14, 3) := by decide +kernel
theorem dX10_kindOf_30 : decode cX10_kindOf 30 = .ok (.iload_n 0, 1) := by decide +kernel
theorem dX10_kindOf_31 : decode cX10_kindOf 31 = .ok (.bipush 121, 2) := by decide +kernel
theorem dX10_kindOf_33 : decode cX10_kindOf 33 = .ok (.if_icmp .ne 7, 3) := by decide +kernel
theorem dX10_kindOf_36 : decode cX10_kindOf 36 = .ok (.iconst 3, 1) := by decide +kernel
theorem dX10_kindOf_37 : decode cX10_kindOf 37 = .ok (.goto 4, 3) := by decide +kernel
theorem dX10_kindOf_40 : decode cX10_kindOf 40 = .ok (.iconst (-1), 1) := by decide +kernel
theorem dX10_kindOf_41 : decode cX10_kindOf 41 = .ok (.ireturn, 1) := by decide +kernel
theorem dX10_goSort_0 : decode cX10_goSort 0 = .ok (.aload_n 0, 1) := by decide +kernel
theorem dX10_goSort_1 : decode cX10_goSort 1 = .ok (.iload_n 1, 1) := by decide +kernel
theorem dX10_goSort_2 : decode cX10_goSort 2 = .ok (.putfield 60, 3) := by decide +kernel
theorem dX10_goSort_5 : decode cX10_goSort 5 = .ok (.aload_n 0, 1) := by decide +kernel
theorem dX10_goSort_6 : decode cX10_goSort 6 = .ok (.iconst 0, 1) := by decide +kernel
theorem dX10_goSort_7 : decode cX10_goSort 7 = .ok (.putfield 63, 3) := by decide +kernel
theorem dX10_goSort_10 : decode cX10_goSort 10 = .ok (.aload_n 0, 1) := by decide +kernel
theorem dX10_goSort_11 : decode cX10_goSort 11 = .ok (.iconst 0, 1) := by decide +kernel
theorem dX10_goSort_12 : decode cX10_goSort 12 = .ok (.putfield 66, 3) := by decide +kernel
theorem dX10_goSort_15 : decode cX10_goSort 15 = .ok (.aload_n 0, 1) := by decide +kernel
theorem dX10_goSort_16 : decode cX10_goSort 16 = .ok (.iconst 0, 1) := by decide +kernel
theorem dX10_goSort_17 : decode cX10_goSort 17 = .ok (.putfield 69, 3) := by decide +kernel
theorem dX10_goSort_20 : decode cX10_goSort 20 = .ok (.aload_n 0, 1) := by decide +kernel
theorem dX10_goSort_21 : decode cX10_goSort 21 = .ok (.iconst 1, 1) := by decide +kernel
theorem dX10_goSort_22 : decode cX10_goSort 22 = .ok (.putfield 72, 3) := by decide +kernel
theorem dX10_goSort_25 : decode cX10_goSort 25 = .ok (.aload_n 0, 1) := by decide +kernel
theorem dX10_goSort_26 : decode cX10_goSort 26 = .ok (.iconst 0, 1) := by decide +kernel
theorem dX10_goSort_27 : decode cX10_goSort 27 = .ok (.putfield 75, 3) := by decide +kernel
theorem dX10_goSort_30 : decode cX10_goSort 30 = .ok (.aload_n 0, 1) := by decide +kernel
theorem dX10_goSort_31 : decode cX10_goSort 31 = .ok (.iconst 1, 1) := by decide +kernel
theorem dX10_goSort_32 : decode cX10_goSort 32 = .ok (.putfield 78, 3) := by decide +kernel
theorem dX10_goSort_35 : decode cX10_goSort 35 = .ok (.iload_n 1, 1) := by decide +kernel
theorem dX10_goSort_36 : decode cX10_goSort 36 = .ok (.bipush 114, 2) := by decide +kernel
theorem dX10_goSort_38 : decode cX10_goSort 38 = .ok (.if_icmp .eq 15, 3) := by decide +kernel
theorem dX10_goSort_41 : decode cX10_goSort 41 = .ok (.iload_n 1, 1) := by decide +kernel
theorem dX10_goSort_42 : decode cX10_goSort 42 = .ok (.bipush 119, 2) := by decide +kernel
theorem dX10_goSort_44 : decode cX10_goSort 44 = .ok (.if_icmp .eq 9, 3) := by decide +kernel
theorem dX10_goSort_47 : decode cX10_goSort 47 = .ok (.iload_n 1, 1) := by decide +kernel
theorem dX10_goSort_48 : decode cX10_goSort 48 = .ok (.bipush 116, 2) := by decide +kernel
theorem dX10_goSort_50 : decode cX10_goSort 50 = .ok (.if_icmp .ne 7, 3) := by decide +kernel
theorem dX10_goSort_53 : decode cX10_goSort 53 = .ok (.iconst 1, 1) := by decide +kernel
theorem dX10_goSort_54 : decode cX10_goSort 54 = .ok (.goto 4, 3) := by decide +kernel
theorem dX10_goSort_57 : decode cX10_goSort 57 = .ok (.iconst 0, 1) := by decide +kernel
theorem dX10_goSort_58 : decode cX10_goSort 58 = .ok (.ireturn, 1) := by decide +kernel
theorem dX10_goSign_0 : decode cX10_goSign 0 = .ok (.iload_n 1, 1) := by decide +kernel
theorem dX10_goSign_1 : decode cX10_goSign 1 = .ok (.bipush 111, 2) := by decide +kernel
theorem dX10_goSign_3 : decode cX10_goSign 3 = .ok (.if_icmp .ne 23, 3) := by decide +kernel
theorem dX10_goSign_6 : decode cX10_goSign 6 = .ok (.aload_n 0, 1) := by decide +kernel
theorem dX10_goSign_7 : decode cX10_goSign 7 = .ok (.getfield 78, 3) := by decide +kernel
theorem dX10_goSign_10 : decode cX10_goSign 10 = .ok (.iconst 1, 1) := by decide +kernel
theorem dX10_goSign_11 : decode cX10_goSign 11 = .ok (.if_icmp .ne 15, 3) := by decide +kernel
theorem dX10_goSign_14 : decode cX10_goSign 14 = .ok (.aload_n 0, 1) := by decide +kernel
theorem dX10_goSign_15 : decode cX10_goSign 15 = .ok (.iconst 1, 1) := by decide +kernel
theorem dX10_goSign_16 : decode cX10_goSign 16 = .ok (.putfield 63, 3) := by decide +kernel
theorem dX10_goSign_19 : decode cX10_goSign 19 = .ok (.aload_n 0, 1) := by decide +kernel
theorem dX10_goSign_20 : decode cX10_goSign 20 = .ok (.iconst 2, 1) := by decide +kernel
theorem dX10_goSign_21 : decode cX10_goSign 21 = .ok (.putfield 78, 3) := by decide +kernel
theorem dX10_goSign_24 : decode cX10_goSign 24 = .ok (.iconst 1, 1) := by decide +kernel
theorem dX10_goSign_25 : decode cX10_goSign 25 = .ok (.ireturn, 1) := by decide +kernel
theorem dX10_goSign_26 : decode cX10_goSign 26 = .ok (.iload_n 1, 1) := by decide +kernel
theorem dX10_goSign_27 : decode cX10_goSign 27 = .ok (.bipush 50, 2) := by decide +kernel
theorem dX10_goSign_29 : decode cX10_goSign 29 = .ok (.if_icmp .ne 23, 3) := by decide +kernel
theorem dX10_goSign_32 : decode cX10_goSign 32 = .ok (.aload_n 0, 1) := by decide +kernel
theorem dX10_goSign_33 : decode cX10_goSign 33 = .ok (.getfield 78, 3) := by decide +kernel
theorem dX10_goSign_36 : decode cX10_goSign 36 = .ok (.iconst 3, 1) := by decide +kernel
theorem dX10_goSign_37 : decode cX10_goSign 37 = .ok (.if_icmp .ge 15, 3) := by decide +kernel
theorem dX10_goSign_40 : decode cX10_goSign 40 = .ok (.aload_n 0, 1) := by decide +kernel
theorem dX10_goSign_41 : decode cX10_goSign 41 = .ok (.iconst 1, 1) := by decide +kernel
theorem dX10_goSign_42 : decode cX10_goSign 42 = .ok (.putfield 66, 3) := by decide +kernel
theorem dX10_goSign_45 : decode cX10_goSign 45 = .ok (.aload_n 0, 1) := by decide +kernel
theorem dX10_goSign_46 : decode cX10_goSign 46 = .ok (.iconst 3, 1) := by decide +kernel
theorem dX10_goSign_47 : decode cX10_goSign 47 = .ok (.putfield 78, 3) := by decide +kernel
theorem dX10_goSign_50 : decode cX10_goSign 50 = .ok (.iconst 1, 1) := by decide +kernel
theorem dX10_goSign_51 : decode cX10_goSign 51 = .ok (.ireturn, 1) := by decide +kernel
theorem dX10_goSign_52 : decode cX10_goSign 52 = .ok (.aload_n 0, 1) := by decide +kernel
theorem dX10_goSign_53 : decode cX10_goSign 53 = .ok (.iconst 4, 1) := by decide +kernel
theorem dX10_goSign_54 : decode cX10_goSign 54 = .ok (.putfield 78, 3) := by decide +kernel
theorem dX10_goSign_57 : decode cX10_goSign 57 = .ok (.iload_n 1, 1) := by decide +kernel
theorem dX10_goSign_58 : decode cX10_goSign 58 = .ok (.bipush 58, 2) := by decide +kernel
theorem dX10_goSign_60 : decode cX10_goSign 60 = .ok (.if_icmp .ne 7, 3) := by decide +kernel
theorem dX10_goSign_63 : decode cX10_goSign 63 = .ok (.iconst 1, 1) := by decide +kernel
theorem dX10_goSign_64 : decode cX10_goSign 64 = .ok (.goto 4, 3) := by decide +kernel
theorem dX10_goSign_67 : decode cX10_goSign 67 = .ok (.iconst 0, 1) := by decide +kernel
theorem dX10_goSign_68 : decode cX10_goSign 68 = .ok (.ireturn, 1) := by decide +kernel
set_option maxRecDepth 20000 in
theorem ggX10_go_X10_goSort : GoodIn wsX10_go wsX10_goSort := goodIn_r _ [11, 2, 12, 13, 3, 5, 4, 1, 24, 25, 26, 27, 28, 29, 30, 31, 32, 33, 34, 35, 36, 37, 38, 39, 40, 41, 42, 43, 44, 45, 46, 47, 48, 49, 50, 51, 52, 53, 54, 55, 56, 57] (by decide +kernel) (by decide +kernel)
set_option maxRecDepth 20000 in
theorem gX10_go_X10_goSort : GoodIn wsX10_go (wsV RX10 81 RX10 yX10_goSort wsX10_goSort) := goodIn_app (goodIn_of _ (by decide +kernel)) ggX10_go_X10_goSort
set_option maxRecDepth 20000 in
theorem ggX10_go_X10_goSign : GoodIn wsX10_go wsX10_goSign := goodIn_r _ [17, 1, 12, 13, 24, 25, 26, 27, 28, 29, 30, 31, 32, 33, 34, 35, 36, 37, 38, 39, 40, 41, 42, 43, 44, 45, 46, 47, 48, 49, 50, 51, 52, 53, 54, 55, 56, 57] (by decide +kernel) (by decide +kernel)
set_option maxRecDepth 20000 in
theorem gX10_go_X10_goSign : GoodIn wsX10_go (wsV RX10 85 RX10 yX10_goSign wsX10_goSign) := goodIn_app (goodIn_of _ (by decide +kernel)) ggX10_go_X10_goSign
set_option maxRecDepth 20000 in
theorem ggX10_go_X10_kindOf : GoodIn wsX10_go wsX10_kindOf := goodIn_r _ [20] (by decide +kernel) (by decide +kernel)
set_option maxRecDepth 20000 in
theorem gX10_go_X10_kindOf : GoodIn wsX10_go (va_wsS RX10 88 yX10_kindOf wsX10_kindOf) := goodIn_app (goodIn_of _ (by decide +kernel)) ggX10_go_X10_kindOf
set_option maxRecDepth 20000 in
theorem ggX10_go_X10_in : GoodIn wsX10_go wsX10_in := goodIn_r _ [23] (by decide +kernel) (by decide +kernel)
set_option maxRecDepth 20000 in
theorem gX10_go_X10_in : GoodIn wsX10_go (va_wsS RX10 92 yX10_in wsX10_in) := goodIn_app (goodIn_of _ (by decide +kernel)) ggX10_go_X10_in
theorem dX10_go_0 : decode cX10_go 0 = .ok (.aload_n 0, 1) := by decide +kernel
theorem dX10_go_1 : decode cX10_go 1 = .ok (.getfield 78, 3) := by decide +kernel
theorem dX10_go_4 : decode cX10_go 4 = .ok (.ifCond .ne 9, 3) := by decide +kernel
theorem dX10_go_7 : decode cX10_go 7 = .ok (.aload_n 0, 1) := by decide +kernel
theorem dX10_go_8 : decode cX10_go 8 = .ok (.iload_n 1, 1) := by decide +kernel
theorem dX10_go_9 : decode cX10_go 9 = .ok (.invokevirtual 81, 3) := by decide +kernel
theorem dX10_go_12 : decode cX10_go 12 = .ok (.ireturn, 1) := by decide +kernel
theorem dX10_go_13 : decode cX10_go 13 = .ok (.aload_n 0, 1) := by decide +kernel
theorem dX10_go_14 : decode cX10_go 14 = .ok (.getfield 78, 3) := by decide +kernel
theorem dX10_go_17 : decode cX10_go 17 = .ok (.iconst 4, 1) := by decide +kernel
theorem dX10_go_18 : decode cX10_go 18 = .ok (.if_icmp .ge 9, 3) := by decide +kernel
theorem dX10_go_21 : decode cX10_go 21 = .ok (.aload_n 0, 1) := by decide +kernel
theorem dX10_go_22 : decode cX10_go 22 = .ok (.iload_n 1, 1) := by decide +kernel
theorem dX10_go_23 : decode cX10_go 23 = .ok (.invokevirtual 85, 3) := by decide +kernel
theorem dX10_go_26 : decode cX10_go 26 = .ok (.ireturn, 1) := by decide +kernel
theorem dX10_go_27 : decode cX10_go 27 = .ok (.aload_n 0, 1) := by decide +kernel
theorem dX10_go_28 : decode cX10_go 28 = .ok (.getfield 78, 3) := by decide +kernel
theorem dX10_go_31 : decode cX10_go 31 = .ok (.iconst 4, 1) := by decide +kernel
theorem dX10_go_32 : decode cX10_go 32 = .ok (.if_icmp .ne 37, 3) := by decide +kernel
theorem dX10_go_35 : decode cX10_go 35 = .ok (.iload_n 1, 1) := by decide +kernel
theorem dX10_go_36 : decode cX10_go 36 = .ok (.bipush 47, 2) := by decide +kernel
theorem dX10_go_38 : decode cX10_go 38 = .ok (.if_icmp .ne 31, 3) := by decide +kernel
theorem dX10_go_41 : decode cX10_go 41 = .ok (.aload_n 0, 1) := by decide +kernel
theorem dX10_go_42 : decode cX10_go 42 = .ok (.iconst 5, 1) := by decide +kernel
theorem dX10_go_43 : decode cX10_go 43 = .ok (.putfield 78, 3) := by decide +kernel
theorem dX10_go_46 : decode cX10_go 46 = .ok (.aload_n 0, 1) := by decide +kernel
theorem dX10_go_47 : decode cX10_go 47 = .ok (.getfield 60, 3) := by decide +kernel
theorem dX10_go_50 : decode cX10_go 50 = .ok (.bipush 116, 2) := by decide +kernel
theorem dX10_go_52 : decode cX10_go 52 = .ok (.if_icmp .ne 15, 3) := by decide +kernel
theorem dX10_go_55 : decode cX10_go 55 = .ok (.aload_n 0, 1) := by decide +kernel
theorem dX10_go_56 : decode cX10_go 56 = .ok (.getfield 69, 3) := by decide +kernel
theorem dX10_go_59 : decode cX10_go 59 = .ok (.iconst 1, 1) := by decide +kernel
theorem dX10_go_60 : decode cX10_go 60 = .ok (.if_icmp .le 7, 3) := by decide +kernel
theorem dX10_go_63 : decode cX10_go 63 = .ok (.iconst 1, 1) := by decide +kernel
theorem dX10_go_64 : decode cX10_go 64 = .ok (.goto 4, 3) := by decide +kernel
theorem dX10_go_67 : decode cX10_go 67 = .ok (.iconst 0, 1) := by decide +kernel
