theorem dX10_luck_188 : decode cX10_luck 188 = .ok (.iadd, 1) := by decide +kernel
theorem dX10_luck_189 : decode cX10_luck 189 = .ok (.iastore, 1) := by decide +kernel
theorem dX10_luck_190 : decode cX10_luck 190 = .ok (.iinc 6 1, 3) := by decide +kernel
theorem dX10_luck_193 : decode cX10_luck 193 = .ok (.goto (-57), 3) := by decide +kernel
theorem dX10_luck_196 : decode cX10_luck 196 = .ok (.iinc 5 1, 3) := by decide +kernel
theorem dX10_luck_199 : decode cX10_luck 199 = .ok (.goto (-75), 3) := by decide +kernel
theorem dX10_luck_202 : decode cX10_luck 202 = .ok (.iconst 0, 1) := by decide +kernel
theorem dX10_luck_203 : decode cX10_luck 203 = .ok (.istore 5, 2) := by decide +kernel
theorem dX10_luck_205 : decode cX10_luck 205 = .ok (.iload 5, 2) := by decide +kernel
theorem dX10_luck_207 : decode cX10_luck 207 = .ok (.aload_n 0, 1) := by decide +kernel
theorem dX10_luck_208 : decode cX10_luck 208 = .ok (.getfield 176, 3) := by decide +kernel
theorem dX10_luck_211 : decode cX10_luck 211 = .ok (.if_icmp .ge 23, 3) := by decide +kernel
theorem dX10_luck_214 : decode cX10_luck 214 = .ok (.aload_n 0, 1) := by decide +kernel
theorem dX10_luck_215 : decode cX10_luck 215 = .ok (.getfield 39, 3) := by decide +kernel
theorem dX10_luck_218 : decode cX10_luck 218 = .ok (.iload 5, 2) := by decide +kernel
theorem dX10_luck_220 : decode cX10_luck 220 = .ok (.aload_n 0, 1) := by decide +kernel
theorem dX10_luck_221 : decode cX10_luck 221 = .ok (.getfield 42, 3) := by decide +kernel
theorem dX10_luck_224 : decode cX10_luck 224 = .ok (.iload 5, 2) := by decide +kernel
theorem dX10_luck_226 : decode cX10_luck 226 = .ok (.iaload, 1) := by decide +kernel
theorem dX10_luck_227 : decode cX10_luck 227 = .ok (.iastore, 1) := by decide +kernel
theorem dX10_luck_228 : decode cX10_luck 228 = .ok (.iinc 5 1, 3) := by decide +kernel
theorem dX10_luck_231 : decode cX10_luck 231 = .ok (.goto (-26), 3) := by decide +kernel
theorem dX10_luck_234 : decode cX10_luck 234 = .ok (.iinc 4 1, 3) := by decide +kernel
theorem dX10_luck_237 : decode cX10_luck 237 = .ok (.goto (-155), 3) := by decide +kernel
theorem dX10_luck_240 : decode cX10_luck 240 = .ok (.aload_n 0, 1) := by decide +kernel
theorem dX10_luck_241 : decode cX10_luck 241 = .ok (.getfield 23, 3) := by decide +kernel
theorem dX10_luck_244 : decode cX10_luck 244 = .ok (.aload_n 0, 1) := by decide +kernel
theorem dX10_luck_245 : decode cX10_luck 245 = .ok (.getfield 52, 3) := by decide +kernel
theorem dX10_luck_248 : decode cX10_luck 248 = .ok (.iaload, 1) := by decide +kernel
theorem dX10_luck_249 : decode cX10_luck 249 = .ok (.iconst 1, 1) := by decide +kernel
theorem dX10_luck_250 : decode cX10_luck 250 = .ok (.isub, 1) := by decide +kernel
theorem dX10_luck_251 : decode cX10_luck 251 = .ok (.istore 4, 2) := by decide +kernel
theorem dX10_luck_253 : decode cX10_luck 253 = .ok (.iload 4, 2) := by decide +kernel
theorem dX10_luck_255 : decode cX10_luck 255 = .ok (.ifCond .ge 7, 3) := by decide +kernel
theorem dX10_luck_258 : decode cX10_luck 258 = .ok (.iconst 0, 1) := by decide +kernel
theorem dX10_luck_259 : decode cX10_luck 259 = .ok (.goto 10, 3) := by decide +kernel
theorem dX10_luck_262 : decode cX10_luck 262 = .ok (.aload_n 0, 1) := by decide +kernel
theorem dX10_luck_263 : decode cX10_luck 263 = .ok (.getfield 39, 3) := by decide +kernel
theorem dX10_luck_266 : decode cX10_luck 266 = .ok (.iload 4, 2) := by decide +kernel
theorem dX10_luck_268 : decode cX10_luck 268 = .ok (.iaload, 1) := by decide +kernel
theorem dX10_luck_269 : decode cX10_luck 269 = .ok (.istore 5, 2) := by decide +kernel
theorem dX10_luck_271 : decode cX10_luck 271 = .ok (.iload 5, 2) := by decide +kernel
theorem dX10_luck_273 : decode cX10_luck 273 = .ok (.iload_n 3, 1) := by decide +kernel
theorem dX10_luck_274 : decode cX10_luck 274 = .ok (.invokestatic 223, 3) := by decide +kernel
theorem dX10_luck_277 : decode cX10_luck 277 = .ok (.istore 6, 2) := by decide +kernel
theorem dX10_luck_279 : decode cX10_luck 279 = .ok (.iload_n 2, 1) := by decide +kernel
theorem dX10_luck_280 : decode cX10_luck 280 = .ok (.ifCond .ne 11, 3) := by decide +kernel
theorem dX10_luck_283 : decode cX10_luck 283 = .ok (.iload 5, 2) := by decide +kernel
theorem dX10_luck_285 : decode cX10_luck 285 = .ok (.iload 6, 2) := by decide +kernel
theorem dX10_luck_287 : decode cX10_luck 287 = .ok (.idiv, 1) := by decide +kernel
theorem dX10_luck_288 : decode cX10_luck 288 = .ok (.goto 7, 3) := by decide +kernel
theorem dX10_luck_291 : decode cX10_luck 291 = .ok (.iload_n 3, 1) := by decide +kernel
theorem dX10_luck_292 : decode cX10_luck 292 = .ok (.iload 6, 2) := by decide +kernel
theorem dX10_luck_294 : decode cX10_luck 294 = .ok (.idiv, 1) := by decide +kernel
theorem dX10_luck_295 : decode cX10_luck 295 = .ok (.ireturn, 1) := by decide +kernel
theorem dX10_draw_0 : decode cX10_draw 0 = .ok (.aload_n 0, 1) := by decide +kernel
theorem dX10_draw_1 : decode cX10_draw 1 = .ok (.ldc2_w 226, 3) := by decide +kernel
theorem dX10_draw_4 : decode cX10_draw 4 = .ok (.aload_n 0, 1) := by decide +kernel
theorem dX10_draw_5 : decode cX10_draw 5 = .ok (.getfield 228, 3) := by decide +kernel
theorem dX10_draw_8 : decode cX10_draw 8 = .ok (.i2l, 1) := by decide +kernel
theorem dX10_draw_9 : decode cX10_draw 9 = .ok (.lmul, 1) := by decide +kernel
theorem dX10_draw_10 : decode cX10_draw 10 = .ok (.ldc2_w 231, 3) := by decide +kernel
theorem dX10_draw_13 : decode cX10_draw 13 = .ok (.ladd, 1) := by decide +kernel
theorem dX10_draw_14 : decode cX10_draw 14 = .ok (.ldc2_w 233, 3) := by decide +kernel
theorem dX10_draw_17 : decode cX10_draw 17 = .ok (.land, 1) := by decide +kernel
theorem dX10_draw_18 : decode cX10_draw 18 = .ok (.l2i, 1) := by decide +kernel
theorem dX10_draw_19 : decode cX10_draw 19 = .ok (.putfield 228, 3) := by decide +kernel
theorem dX10_draw_22 : decode cX10_draw 22 = .ok (.aload_n 0, 1) := by decide +kernel
theorem dX10_draw_23 : decode cX10_draw 23 = .ok (.getfield 228, 3) := by decide +kernel
theorem dX10_draw_26 : decode cX10_draw 26 = .ok (.ldc 235, 2) := by decide +kernel
theorem dX10_draw_28 : decode cX10_draw 28 = .ok (.idiv, 1) := by decide +kernel
theorem dX10_draw_29 : decode cX10_draw 29 = .ok (.iload_n 1, 1) := by decide +kernel
theorem dX10_draw_30 : decode cX10_draw 30 = .ok (.irem, 1) := by decide +kernel
theorem dX10_draw_31 : decode cX10_draw 31 = .ok (.ireturn, 1) := by decide +kernel
set_option maxRecDepth 20000 in
theorem ggX10_child_X10_lacks : GoodIn wsX10_child wsX10_lacks := goodIn_r _ [10, 5, 68, 69, 70, 71, 72, 73, 74, 75, 76, 77, 78, 79, 80, 81, 82, 83, 84, 85, 86, 87, 88, 89, 90, 91, 92, 93, 94, 95, 96, 97, 98, 99, 100, 101] (by decide +kernel) (by decide +kernel)
set_option maxRecDepth 20000 in
theorem gX10_child_X10_lacks : GoodIn wsX10_child (wsV RX10 129 RX10 yX10_lacks wsX10_lacks) := goodIn_app (goodIn_of _ (by decide +kernel)) ggX10_child_X10_lacks
set_option maxRecDepth 20000 in
theorem ggX10_child_X10_frogs : GoodIn wsX10_child wsX10_frogs := goodIn_r _ [14, 5, 4, 15, 16, 17, 9, 18, 68, 69, 70, 71, 72, 73, 74, 75, 76, 77, 78, 79, 80, 81, 82, 83, 84, 85, 86, 87, 88, 89, 90, 91, 92, 93, 94, 95, 96, 97, 98, 99, 100, 101] (by decide +kernel) (by decide +kernel)
set_option maxRecDepth 20000 in
theorem gX10_child_X10_frogs : GoodIn wsX10_child (wsV RX10 133 RX10 yX10_frogs wsX10_frogs) := goodIn_app (goodIn_of _ (by decide +kernel)) ggX10_child_X10_frogs
set_option maxRecDepth 20000 in
theorem ggX10_child_X10_in : GoodIn wsX10_child wsX10_in := goodIn_r _ [21] (by decide +kernel) (by decide +kernel)
set_option maxRecDepth 20000 in
theorem gX10_child_X10_in : GoodIn wsX10_child (va_wsS RX10 92 yX10_in wsX10_in) := goodIn_app (goodIn_of _ (by decide +kernel)) ggX10_child_X10_in
set_option maxRecDepth 20000 in
theorem ggX10_child_X10_draw : GoodIn wsX10_child wsX10_draw := goodIn_r _ [25, 26, 3, 27, 28, 29, 68, 69, 70, 71, 72, 73, 74, 75, 76, 77, 78, 79, 80, 81, 82, 83, 84, 85, 86, 87, 88, 89, 90, 91, 92, 93, 94, 95, 96, 97, 98, 99, 100, 101] (by decide +kernel) (by decide +kernel)
set_option maxRecDepth 20000 in
theorem gX10_child_X10_draw : GoodIn wsX10_child (wsV RX10 240 RX10 yX10_draw wsX10_draw) := goodIn_app (goodIn_of _ (by decide +kernel)) ggX10_child_X10_draw
set_option maxRecDepth 20000 in
theorem ggX10_child_X10_letGo : GoodIn wsX10_child wsX10_letGo := goodIn_r _ [33, 5, 34, 35, 36, 9, 37, 38, 39, 40, 41, 42, 43, 44, 45, 46, 47, 48, 49, 50, 51, 52, 53, 54, 55, 56, 57, 58, 59, 60, 61, 62, 63, 64, 68, 69, 70, 71, 72, 73, 74, 75, 76, 77, 78, 79, 80, 81, 82, 83, 84, 85, 86, 87, 88, 89, 90, 91, 92, 93, 94, 95, 96, 97, 98, 99, 100, 101] (by decide +kernel) (by decide +kernel)
set_option maxRecDepth 20000 in
theorem gX10_child_X10_letGo : GoodIn wsX10_child (wsV RX10 220 RX10 yX10_letGo wsX10_letGo) := goodIn_app (goodIn_of _ (by decide +kernel)) ggX10_child_X10_letGo
set_option maxRecDepth 20000 in
theorem ggX10_child_X10_at : GoodIn wsX10_child wsX10_at := goodIn_r _ [37] (by decide +kernel) (by decide +kernel)
set_option maxRecDepth 20000 in
theorem gX10_child_X10_at : GoodIn wsX10_child (wsV RX10 136 RX10 yX10_at wsX10_at) := goodIn_app (goodIn_of _ (by decide +kernel)) ggX10_child_X10_at
set_option maxRecDepth 20000 in
theorem ggX10_child_X10_told : GoodIn wsX10_child wsX10_told := goodIn_r _ [67] (by decide +kernel) (by decide +kernel)
set_option maxRecDepth 20000 in
theorem gX10_child_X10_told : GoodIn wsX10_child (va_wsS RX10 139 yX10_told wsX10_told) := goodIn_app (goodIn_of _ (by decide +kernel)) ggX10_child_X10_told
theorem dX10_child_0 : decode cX10_child 0 = .ok (.aload_n 0, 1) := by decide +kernel
theorem dX10_child_1 : decode cX10_child 1 = .ok (.invokevirtual 129, 3) := by decide +kernel
theorem dX10_child_4 : decode cX10_child 4 = .ok (.ifCond .ne 10, 3) := by decide +kernel
theorem dX10_child_7 : decode cX10_child 7 = .ok (.aload_n 0, 1) := by decide +kernel
theorem dX10_child_8 : decode cX10_child 8 = .ok (.invokevirtual 133, 3) := by decide +kernel
theorem dX10_child_11 : decode cX10_child 11 = .ok (.ifCond .ne 6, 3) := by decide +kernel
theorem dX10_child_14 : decode cX10_child 14 = .ok (.bipush (-103), 2) := by decide +kernel
theorem dX10_child_16 : decode cX10_child 16 = .ok (.ireturn, 1) := by decide +kernel
theorem dX10_child_17 : decode cX10_child 17 = .ok (.iload_n 1, 1) := by decide +kernel
theorem dX10_child_18 : decode cX10_child 18 = .ok (.i2l, 1) := by decide +kernel
theorem dX10_child_19 : decode cX10_child 19 = .ok (.lconst 1, 1) := by decide +kernel
theorem dX10_child_20 : decode cX10_child 20 = .ok (.ldc2_w 236, 3) := by decide +kernel
theorem dX10_child_23 : decode cX10_child 23 = .ok (.invokestatic 92, 3) := by decide +kernel
theorem dX10_child_26 : decode cX10_child 26 = .ok (.ifCond .eq 19, 3) := by decide +kernel
theorem dX10_child_29 : decode cX10_child 29 = .ok (.iload_n 2, 1) := by decide +kernel
theorem dX10_child_30 : decode cX10_child 30 = .ok (.ifCond .lt 15, 3) := by decide +kernel
theorem dX10_child_33 : decode cX10_child 33 = .ok (.iload_n 3, 1) := by decide +kernel
theorem dX10_child_34 : decode cX10_child 34 = .ok (.i2l, 1) := by decide +kernel
theorem dX10_child_35 : decode cX10_child 35 = .ok (.lconst 0, 1) := by decide +kernel
theorem dX10_child_36 : decode cX10_child 36 = .ok (.ldc2_w 238, 3) := by decide +kernel
theorem dX10_child_39 : decode cX10_child 39 = .ok (.invokestatic 92, 3) := by decide +kernel
theorem dX10_child_42 : decode cX10_child 42 = .ok (.ifCond .ne 6, 3) := by decide +kernel
theorem dX10_child_45 : decode cX10_child 45 = .ok (.bipush (-102), 2) := by decide +kernel
theorem dX10_child_47 : decode cX10_child 47 = .ok (.ireturn, 1) := by decide +kernel
theorem dX10_child_48 : decode cX10_child 48 = .ok (.aload_n 0, 1) := by decide +kernel
theorem dX10_child_49 : decode cX10_child 49 = .ok (.iload_n 2, 1) := by decide +kernel
theorem dX10_child_50 : decode cX10_child 50 = .ok (.putfield 228, 3) := by decide +kernel
theorem dX10_child_53 : decode cX10_child 53 = .ok (.aload_n 0, 1) := by decide +kernel
theorem dX10_child_54 : decode cX10_child 54 = .ok (.getfield 116, 3) := by decide +kernel
theorem dX10_child_57 : decode cX10_child 57 = .ok (.istore 4, 2) := by decide +kernel
theorem dX10_child_59 : decode cX10_child 59 = .ok (.iconst 0, 1) := by decide +kernel
theorem dX10_child_60 : decode cX10_child 60 = .ok (.istore 5, 2) := by decide +kernel
theorem dX10_child_62 : decode cX10_child 62 = .ok (.iconst 0, 1) := by decide +kernel
theorem dX10_child_63 : decode cX10_child 63 = .ok (.istore 6, 2) := by decide +kernel
theorem dX10_child_65 : decode cX10_child 65 = .ok (.iload 6, 2) := by decide +kernel
theorem dX10_child_67 : decode cX10_child 67 = .ok (.iload_n 1, 1) := by decide +kernel
theorem dX10_child_68 : decode cX10_child 68 = .ok (.if_icmp .ge 46, 3) := by decide +kernel
theorem dX10_child_71 : decode cX10_child 71 = .ok (.aload_n 0, 1) := by decide +kernel
theorem dX10_child_72 : decode cX10_child 72 = .ok (.iload 4, 2) := by decide +kernel
theorem dX10_child_74 : decode cX10_child 74 = .ok (.aload_n 0, 1) := by decide +kernel
theorem dX10_child_75 : decode cX10_child 75 = .ok (.aload_n 0, 1) := by decide +kernel
theorem dX10_child_76 : decode cX10_child 76 = .ok (.invokevirtual 133, 3) := by decide +kernel
theorem dX10_child_79 : decode cX10_child 79 = .ok (.invokevirtual 240, 3) := by decide +kernel
theorem dX10_child_82 : decode cX10_child 82 = .ok (.invokevirtual 220, 3) := by decide +kernel
theorem dX10_child_85 : decode cX10_child 85 = .ok (.istore 7, 2) := by decide +kernel
theorem dX10_child_87 : decode cX10_child 87 = .ok (.iload 5, 2) := by decide +kernel
theorem dX10_child_89 : decode cX10_child 89 = .ok (.iload 7, 2) := by decide +kernel
theorem dX10_child_91 : decode cX10_child 91 = .ok (.iload 4, 2) := by decide +kernel
theorem dX10_child_93 : decode cX10_child 93 = .ok (.if_icmp .ne 7, 3) := by decide +kernel
theorem dX10_child_96 : decode cX10_child 96 = .ok (.iconst 0, 1) := by decide +kernel
theorem dX10_child_97 : decode cX10_child 97 = .ok (.goto 4, 3) := by decide +kernel
theorem dX10_child_100 : decode cX10_child 100 = .ok (.iconst 1, 1) := by decide +kernel
theorem dX10_child_101 : decode cX10_child 101 = .ok (.iadd, 1) := by decide +kernel
theorem dX10_child_102 : decode cX10_child 102 = .ok (.istore 5, 2) := by decide +kernel
theorem dX10_child_104 : decode cX10_child 104 = .ok (.iload 7, 2) := by decide +kernel
theorem dX10_child_106 : decode cX10_child 106 = .ok (.istore 4, 2) := by decide +kernel
theorem dX10_child_108 : decode cX10_child 108 = .ok (.iinc 6 1, 3) := by decide +kernel
theorem dX10_child_111 : decode cX10_child 111 = .ok (.goto (-46), 3) := by decide +kernel
theorem dX10_child_114 : decode cX10_child 114 = .ok (.iload_n 3, 1) := by decide +kernel
theorem dX10_child_115 : decode cX10_child 115 = .ok (.bipush 9, 2) := by decide +kernel
theorem dX10_child_117 : decode cX10_child 117 = .ok (.if_icmp .ne 8, 3) := by decide +kernel
theorem dX10_child_120 : decode cX10_child 120 = .ok (.iload 5, 2) := by decide +kernel
theorem dX10_child_122 : decode cX10_child 122 = .ok (.goto 38, 3) := by decide +kernel
theorem dX10_child_125 : decode cX10_child 125 = .ok (.iload_n 3, 1) := by decide +kernel
theorem dX10_child_126 : decode cX10_child 126 = .ok (.bipush 10, 2) := by decide +kernel
theorem dX10_child_128 : decode cX10_child 128 = .ok (.if_icmp .ne 10, 3) := by decide +kernel
theorem dX10_child_131 : decode cX10_child 131 = .ok (.aload_n 0, 1) := by decide +kernel
theorem dX10_child_132 : decode cX10_child 132 = .ok (.getfield 228, 3) := by decide +kernel
theorem dX10_child_135 : decode cX10_child 135 = .ok (.goto 25, 3) := by decide +kernel
theorem dX10_child_138 : decode cX10_child 138 = .ok (.iload_n 3, 1) := by decide +kernel
theorem dX10_child_139 : decode cX10_child 139 = .ok (.aload_n 0, 1) := by decide +kernel
theorem dX10_child_140 : decode cX10_child 140 = .ok (.getfield 106, 3) := by decide +kernel
theorem dX10_child_143 : decode cX10_child 143 = .ok (.if_icmp .ge 16, 3) := by decide +kernel
theorem dX10_child_146 : decode cX10_child 146 = .ok (.aload_n 0, 1) := by decide +kernel
theorem dX10_child_147 : decode cX10_child 147 = .ok (.iload 4, 2) := by decide +kernel
theorem dX10_child_149 : decode cX10_child 149 = .ok (.iload_n 3, 1) := by decide +kernel
theorem dX10_child_150 : decode cX10_child 150 = .ok (.invokevirtual 136, 3) := by decide +kernel
theorem dX10_child_153 : decode cX10_child 153 = .ok (.invokestatic 139, 3) := by decide +kernel
theorem dX10_child_156 : decode cX10_child 156 = .ok (.goto 4, 3) := by decide +kernel
theorem dX10_child_159 : decode cX10_child 159 = .ok (.iconst (-1), 1) := by decide +kernel
theorem dX10_child_160 : decode cX10_child 160 = .ok (.ireturn, 1) := by decide +kernel
set_option maxRecDepth 20000 in
theorem ggX10_turned_X10_at : GoodIn wsX10_turned wsX10_at := goodIn_r _ [6] (by decide +kernel) (by decide +kernel)
set_option maxRecDepth 20000 in
theorem gX10_turned_X10_at : GoodIn wsX10_turned (wsV RX10 136 RX10 yX10_at wsX10_at) := goodIn_app (goodIn_of _ (by decide +kernel)) ggX10_turned_X10_at
theorem dX10_turned_0 : decode cX10_turned 0 = .ok (.iconst 0, 1) := by decide +kernel
theorem dX10_turned_1 : decode cX10_turned 1 = .ok (.istore_n 3, 1) := by decide +kernel
theorem dX10_turned_2 : decode cX10_turned 2 = .ok (.iconst 0, 1) := by decide +kernel
theorem dX10_turned_3 : decode cX10_turned 3 = .ok (.istore 4, 2) := by decide +kernel
theorem dX10_turned_5 : decode cX10_turned 5 = .ok (.iload 4, 2) := by decide +kernel
theorem dX10_turned_7 : decode cX10_turned 7 = .ok (.aload_n 0, 1) := by decide +kernel
theorem dX10_turned_8 : decode cX10_turned 8 = .ok (.getfield 106, 3) := by decide +kernel
theorem dX10_turned_11 : decode cX10_turned 11 = .ok (.if_icmp .ge 31, 3) := by decide +kernel
theorem dX10_turned_14 : decode cX10_turned 14 = .ok (.iload_n 3, 1) := by decide +kernel
theorem dX10_turned_15 : decode cX10_turned 15 = .ok (.aload_n 0, 1) := by decide +kernel
theorem dX10_turned_16 : decode cX10_turned 16 = .ok (.iload_n 1, 1) := by decide +kernel
theorem dX10_turned_17 : decode cX10_turned 17 = .ok (.iload 4, 2) := by decide +kernel
theorem dX10_turned_19 : decode cX10_turned 19 = .ok (.invokevirtual 136, 3) := by decide +kernel
theorem dX10_turned_22 : decode cX10_turned 22 = .ok (.iconst 2, 1) := by decide +kernel
theorem dX10_turned_23 : decode cX10_turned 23 = .ok (.iload 4, 2) := by decide +kernel
theorem dX10_turned_25 : decode cX10_turned 25 = .ok (.iload_n 2, 1) := by decide +kernel
theorem dX10_turned_26 : decode cX10_turned 26 = .ok (.iadd, 1) := by decide +kernel
theorem dX10_turned_27 : decode cX10_turned 27 = .ok (.aload_n 0, 1) := by decide +kernel
theorem dX10_turned_28 : decode cX10_turned 28 = .ok (.getfield 106, 3) := by decide +kernel
theorem dX10_turned_31 : decode cX10_turned 31 = .ok (.irem, 1) := by decide +kernel
theorem dX10_turned_32 : decode cX10_turned 32 = .ok (.imul, 1) := by decide +kernel
theorem dX10_turned_33 : decode cX10_turned 33 = .ok (.ishl, 1) := by decide +kernel
theorem dX10_turned_34 : decode cX10_turned 34 = .ok (.ior, 1) := by decide +kernel
theorem dX10_turned_35 : decode cX10_turned 35 = .ok (.istore_n 3, 1) := by decide +kernel
theorem dX10_turned_36 : decode cX10_turned 36 = .ok (.iinc 4 1, 3) := by decide +kernel
theorem dX10_turned_39 : decode cX10_turned 39 = .ok (.goto (-34), 3) := by decide +kernel
theorem dX10_turned_42 : decode cX10_turned 42 = .ok (.iload_n 3, 1) := by decide +kernel
theorem dX10_turned_43 : decode cX10_turned 43 = .ok (.ireturn, 1) := by decide +kernel
set_option maxRecDepth 20000 in
theorem ggX10_alike_X10_noAim : GoodIn wsX10_alike wsX10_noAim := goodIn_r _ [9, 4, 10, 11, 12, 8, 13, 2, 22, 23, 24, 25, 26, 27, 28, 29, 30, 31, 32, 33, 34, 35, 36, 37, 38, 39, 40, 41, 42, 43, 44, 45, 46, 47, 48, 49, 50, 51, 52, 53, 54, 55] (by decide +kernel) (by decide +kernel)
set_option maxRecDepth 20000 in
theorem gX10_alike_X10_noAim : GoodIn wsX10_alike (wsV RX10 183 RX10 yX10_noAim wsX10_noAim) := goodIn_app (goodIn_of _ (by decide +kernel)) ggX10_alike_X10_noAim
set_option maxRecDepth 20000 in
theorem ggX10_alike_X10_turned : GoodIn wsX10_alike wsX10_turned := goodIn_r _ [17, 2, 18, 19, 20, 8, 21, 22, 23, 24, 25, 26, 27, 28, 29, 30, 31, 32, 33, 34, 35, 36, 37, 38, 39, 40, 41, 42, 43, 44, 45, 46, 47, 48, 49, 50, 51, 52, 53, 54, 55] (by decide +kernel) (by decide +kernel)
set_option maxRecDepth 20000 in
theorem gX10_alike_X10_turned : GoodIn wsX10_alike (wsV RX10 243 RX10 yX10_turned wsX10_turned) := goodIn_app (goodIn_of _ (by decide +kernel)) ggX10_alike_X10_turned
theorem dX10_alike_0 : decode cX10_alike 0 = .ok (.aload_n 0, 1) := by decide +kernel
theorem dX10_alike_1 : decode cX10_alike 1 = .ok (.invokevirtual 183, 3) := by decide +kernel
theorem dX10_alike_4 : decode cX10_alike 4 = .ok (.ifCond .ne 12, 3) := by decide +kernel
theorem dX10_alike_7 : decode cX10_alike 7 = .ok (.aload_n 0, 1) := by decide +kernel
theorem dX10_alike_8 : decode cX10_alike 8 = .ok (.getfield 103, 3) := by decide +kernel
theorem dX10_alike_11 : decode cX10_alike 11 = .ok (.bipush 114, 2) := by decide +kernel
theorem dX10_alike_13 : decode cX10_alike 13 = .ok (.if_icmp .eq 6, 3) := by decide +kernel
theorem dX10_alike_16 : decode cX10_alike 16 = .ok (.bipush (-103), 2) := by decide +kernel
theorem dX10_alike_18 : decode cX10_alike 18 = .ok (.ireturn, 1) := by decide +kernel
theorem dX10_alike_19 : decode cX10_alike 19 = .ok (.iconst 0, 1) := by decide +kernel
theorem dX10_alike_20 : decode cX10_alike 20 = .ok (.istore_n 1, 1) := by decide +kernel
theorem dX10_alike_21 : decode cX10_alike 21 = .ok (.iload_n 1, 1) := by decide +kernel
theorem dX10_alike_22 : decode cX10_alike 22 = .ok (.aload_n 0, 1) := by decide +kernel
theorem dX10_alike_23 : decode cX10_alike 23 = .ok (.getfield 106, 3) := by decide +kernel
theorem dX10_alike_26 : decode cX10_alike 26 = .ok (.if_icmp .ge 27, 3) := by decide +kernel
theorem dX10_alike_29 : decode cX10_alike 29 = .ok (.aload_n 0, 1) := by decide +kernel
theorem dX10_alike_30 : decode cX10_alike 30 = .ok (.aload_n 0, 1) := by decide +kernel
theorem dX10_alike_31 : decode cX10_alike 31 = .ok (.getfield 116, 3) := by decide +kernel
theorem dX10_alike_34 : decode cX10_alike 34 = .ok (.iload_n 1, 1) := by decide +kernel
theorem dX10_alike_35 : decode cX10_alike 35 = .ok (.invokevirtual 243, 3) := by decide +kernel
theorem dX10_alike_38 : decode cX10_alike 38 = .ok (.aload_n 0, 1) := by decide +kernel
theorem dX10_alike_39 : decode cX10_alike 39 = .ok (.getfield 52, 3) := by decide +kernel
theorem dX10_alike_42 : decode cX10_alike 42 = .ok (.if_icmp .ne 5, 3) := by decide +kernel
theorem dX10_alike_45 : decode cX10_alike 45 = .ok (.iload_n 1, 1) := by decide +kernel
theorem dX10_alike_46 : decode cX10_alike 46 = .ok (.ireturn, 1) := by decide +kernel
theorem dX10_alike_47 : decode cX10_alike 47 = .ok (.iinc 1 1, 3) := by decide +kernel
theorem dX10_alike_50 : decode cX10_alike 50 = .ok (.goto (-29), 3) := by decide +kernel
theorem dX10_alike_53 : decode cX10_alike 53 = .ok (.iconst (-1), 1) := by decide +kernel
theorem dX10_alike_54 : decode cX10_alike 54 = .ok (.ireturn, 1) := by decide +kernel
set_option maxRecDepth 20000 in
theorem ggX10_kinds_X10_lacks : GoodIn wsX10_kinds wsX10_lacks := goodIn_r _ [10, 3, 57, 58, 59, 60, 61, 62, 63, 64, 65, 66, 67, 68, 69, 70, 71, 72, 73, 74, 75, 76, 77, 78, 79, 80, 81, 82, 83, 84, 85, 86, 87, 88, 89, 90] (by decide +kernel) (by decide +kernel)
set_option maxRecDepth 20000 in
theorem gX10_kinds_X10_lacks : GoodIn wsX10_kinds (wsV RX10 129 RX10 yX10_lacks wsX10_lacks) := goodIn_app (goodIn_of _ (by decide +kernel)) ggX10_kinds_X10_lacks
set_option maxRecDepth 20000 in
theorem ggX10_kinds_X10_layRow : GoodIn wsX10_kinds wsX10_layRow := goodIn_r _ [14, 2, 4, 5, 15, 3, 16, 17, 18, 9, 19, 20, 21, 22, 23, 24, 25, 26, 27, 28, 29, 30, 31, 32, 33, 34, 35, 36, 37, 38, 39, 40, 41, 42, 43, 1, 44, 45, 46, 47, 48, 49, 50, 51, 52, 57, 58, 59, 60, 61, 62, 63, 64, 65, 66, 67, 68, 69, 70, 71, 72, 73, 74, 75, 76, 77, 78, 79, 80, 81, 82, 83, 84, 85, 86, 87, 88, 89, 90] (by decide +kernel) (by decide +kernel)
set_option maxRecDepth 20000 in
theorem gX10_kinds_X10_layRow : GoodIn wsX10_kinds (wsV RX10 186 RX10 yX10_layRow wsX10_layRow) := goodIn_app (goodIn_of _ (by decide +kernel)) ggX10_kinds_X10_layRow
set_option maxRecDepth 20000 in
theorem ggX10_kinds_X10_turned : GoodIn wsX10_kinds wsX10_turned := goodIn_r _ [56, 3, 28, 29, 30, 9, 31, 57, 58, 59, 60, 61, 62, 63, 64, 65, 66, 67, 68, 69, 70, 71, 72, 73, 74, 75, 76, 77, 78, 79, 80, 81, 82, 83, 84, 85, 86, 87, 88, 89, 90] (by decide +kernel) (by decide +kernel)
set_option maxRecDepth 20000 in
theorem gX10_kinds_X10_turned : GoodIn wsX10_kinds (wsV RX10 243 RX10 yX10_turned wsX10_turned) := goodIn_app (goodIn_of _ (by decide +kernel)) ggX10_kinds_X10_turned
theorem dX10_kinds_0 : decode cX10_kinds 0 = .ok (.aload_n 0, 1) := by decide +kernel
theorem dX10_kinds_1 : decode cX10_kinds 1 = .ok (.invokevirtual 129, 3) := by decide +kernel
theorem dX10_kinds_4 : decode cX10_kinds 4 = .ok (.ifCond .ne 12, 3) := by decide +kernel
theorem dX10_kinds_7 : decode cX10_kinds 7 = .ok (.aload_n 0, 1) := by decide +kernel
theorem dX10_kinds_8 : decode cX10_kinds 8 = .ok (.getfield 103, 3) := by decide +kernel
theorem dX10_kinds_11 : decode cX10_kinds 11 = .ok (.bipush 114, 2) := by decide +kernel
theorem dX10_kinds_13 : decode cX10_kinds 13 = .ok (.if_icmp .eq 6, 3) := by decide +kernel
theorem dX10_kinds_16 : decode cX10_kinds 16 = .ok (.bipush (-103), 2) := by decide +kernel
theorem dX10_kinds_18 : decode cX10_kinds 18 = .ok (.ireturn, 1) := by decide +kernel
theorem dX10_kinds_19 : decode cX10_kinds 19 = .ok (.aload_n 0, 1) := by decide +kernel
theorem dX10_kinds_20 : decode cX10_kinds 20 = .ok (.invokevirtual 186, 3) := by decide +kernel
theorem dX10_kinds_23 : decode cX10_kinds 23 = .ok (.iconst 0, 1) := by decide +kernel
theorem dX10_kinds_24 : decode cX10_kinds 24 = .ok (.istore_n 1, 1) := by decide +kernel
theorem dX10_kinds_25 : decode cX10_kinds 25 = .ok (.iconst 0, 1) := by decide +kernel
theorem dX10_kinds_26 : decode cX10_kinds 26 = .ok (.istore_n 2, 1) := by decide +kernel
theorem dX10_kinds_27 : decode cX10_kinds 27 = .ok (.iload_n 2, 1) := by decide +kernel
theorem dX10_kinds_28 : decode cX10_kinds 28 = .ok (.aload_n 0, 1) := by decide +kernel
theorem dX10_kinds_29 : decode cX10_kinds 29 = .ok (.getfield 176, 3) := by decide +kernel
theorem dX10_kinds_32 : decode cX10_kinds 32 = .ok (.if_icmp .ge 83, 3) := by decide +kernel
theorem dX10_kinds_35 : decode cX10_kinds 35 = .ok (.iconst 1, 1) := by decide +kernel
theorem dX10_kinds_36 : decode cX10_kinds 36 = .ok (.istore_n 3, 1) := by decide +kernel
theorem dX10_kinds_37 : decode cX10_kinds 37 = .ok (.iconst 1, 1) := by decide +kernel
theorem dX10_kinds_38 : decode cX10_kinds 38 = .ok (.istore 4, 2) := by decide +kernel
theorem dX10_kinds_40 : decode cX10_kinds 40 = .ok (.iload 4, 2) := by decide +kernel
theorem dX10_kinds_42 : decode cX10_kinds 42 = .ok (.aload_n 0, 1) := by decide +kernel
theorem dX10_kinds_43 : decode cX10_kinds 43 = .ok (.getfield 106, 3) := by decide +kernel
theorem dX10_kinds_46 : decode cX10_kinds 46 = .ok (.if_icmp .ge 51, 3) := by decide +kernel
theorem dX10_kinds_49 : decode cX10_kinds 49 = .ok (.aload_n 0, 1) := by decide +kernel
theorem dX10_kinds_50 : decode cX10_kinds 50 = .ok (.getfield 23, 3) := by decide +kernel
theorem dX10_kinds_53 : decode cX10_kinds 53 = .ok (.aload_n 0, 1) := by decide +kernel
theorem dX10_kinds_54 : decode cX10_kinds 54 = .ok (.aload_n 0, 1) := by decide +kernel
theorem dX10_kinds_55 : decode cX10_kinds 55 = .ok (.getfield 26, 3) := by decide +kernel
theorem dX10_kinds_58 : decode cX10_kinds 58 = .ok (.iload_n 2, 1) := by decide +kernel
theorem dX10_kinds_59 : decode cX10_kinds 59 = .ok (.iaload, 1) := by decide +kernel
theorem dX10_kinds_60 : decode cX10_kinds 60 = .ok (.iload 4, 2) := by decide +kernel
theorem dX10_kinds_62 : decode cX10_kinds 62 = .ok (.invokevirtual 243, 3) := by decide +kernel
theorem dX10_kinds_65 : decode cX10_kinds 65 = .ok (.iaload, 1) := by decide +kernel
theorem dX10_kinds_66 : decode cX10_kinds 66 = .ok (.iconst 1, 1) := by decide +kernel
theorem dX10_kinds_67 : decode cX10_kinds 67 = .ok (.isub, 1) := by decide +kernel
theorem dX10_kinds_68 : decode cX10_kinds 68 = .ok (.istore 5, 2) := by decide +kernel
theorem dX10_kinds_70 : decode cX10_kinds 70 = .ok (.iload_n 3, 1) := by decide +kernel
theorem dX10_kinds_71 : decode cX10_kinds 71 = .ok (.ifCond .eq 18, 3) := by decide +kernel
theorem dX10_kinds_74 : decode cX10_kinds 74 = .ok (.iload 5, 2) := by decide +kernel
theorem dX10_kinds_76 : decode cX10_kinds 76 = .ok (.ifCond .lt 9, 3) := by decide +kernel
theorem dX10_kinds_79 : decode cX10_kinds 79 = .ok (.iload 5, 2) := by decide +kernel
theorem dX10_kinds_81 : decode cX10_kinds 81 = .ok (.iload_n 2, 1) := by decide +kernel
theorem dX10_kinds_82 : decode cX10_kinds 82 = .ok (.if_icmp .lt 7, 3) := by decide +kernel
theorem dX10_kinds_85 : decode cX10_kinds 85 = .ok (.iconst 1, 1) := by decide +kernel
theorem dX10_kinds_86 : decode cX10_kinds 86 = .ok (.goto 4, 3) := by decide +kernel
theorem dX10_kinds_89 : decode cX10_kinds 89 = .ok (.iconst 0, 1) := by decide +kernel
theorem dX10_kinds_90 : decode cX10_kinds 90 = .ok (.istore_n 3, 1) := by decide +kernel
theorem dX10_kinds_91 : decode cX10_kinds 91 = .ok (.iinc 4 1, 3) := by decide +kernel
theorem dX10_kinds_94 : decode cX10_kinds 94 = .ok (.goto (-54), 3) := by decide +kernel
theorem dX10_kinds_97 : decode cX10_kinds 97 = .ok (.iload_n 1, 1) := by decide +kernel
theorem dX10_kinds_98 : decode cX10_kinds 98 = .ok (.iload_n 3, 1) := by decide +kernel
theorem dX10_kinds_99 : decode cX10_kinds 99 = .ok (.ifCond .eq 7, 3) := by decide +kernel
theorem dX10_kinds_102 : decode cX10_kinds 102 = .ok (.iconst 1, 1) := by decide +kernel
theorem dX10_kinds_103 : decode cX10_kinds 103 = .ok (.goto 4, 3) := by decide +kernel
theorem dX10_kinds_106 : decode cX10_kinds 106 = .ok (.iconst 0, 1) := by decide +kernel
theorem dX10_kinds_107 : decode cX10_kinds 107 = .ok (.iadd, 1) := by decide +kernel
theorem dX10_kinds_108 : decode cX10_kinds 108 = .ok (.istore_n 1, 1) := by decide +kernel
theorem dX10_kinds_109 : decode cX10_kinds 109 = .ok (.iinc 2 1, 3) := by decide +kernel
theorem dX10_kinds_112 : decode cX10_kinds 112 = .ok (.goto (-85), 3) := by decide +kernel
theorem dX10_kinds_115 : decode cX10_kinds 115 = .ok (.iload_n 1, 1) := by decide +kernel
theorem dX10_kinds_116 : decode cX10_kinds 116 = .ok (.ireturn, 1) := by decide +kernel
set_option maxRecDepth 20000 in
theorem ggX10_image_X10_lacks : GoodIn wsX10_image wsX10_lacks := goodIn_r _ [13, 14, 15, 16, 17, 18, 19, 20, 21, 22, 23, 24, 25, 26, 27, 28, 29, 30, 31, 32, 33, 34, 35, 36, 37, 38, 39, 40, 41, 42, 43, 44, 45, 46, 47, 48] (by decide +kernel) (by decide +kernel)
set_option maxRecDepth 20000 in
theorem gX10_image_X10_lacks : GoodIn wsX10_image (wsV RX10 129 RX10 yX10_lacks wsX10_lacks) := goodIn_app (goodIn_of _ (by decide +kernel)) ggX10_image_X10_lacks
theorem dX10_image_0 : decode cX10_image 0 = .ok (.aload_n 0, 1) := by decide +kernel
theorem dX10_image_1 : decode cX10_image 1 = .ok (.invokevirtual 129, 3) := by decide +kernel
theorem dX10_image_4 : decode cX10_image 4 = .ok (.ifCond .eq 6, 3) := by decide +kernel
theorem dX10_image_7 : decode cX10_image 7 = .ok (.bipush (-103), 2) := by decide +kernel
theorem dX10_image_9 : decode cX10_image 9 = .ok (.ireturn, 1) := by decide +kernel
theorem dX10_image_10 : decode cX10_image 10 = .ok (.iconst 0, 1) := by decide +kernel
theorem dX10_image_11 : decode cX10_image 11 = .ok (.istore_n 1, 1) := by decide +kernel
theorem dX10_image_12 : decode cX10_image 12 = .ok (.iload_n 1, 1) := by decide +kernel
theorem dX10_image_13 : decode cX10_image 13 = .ok (.bipush 120, 2) := by decide +kernel
theorem dX10_image_15 : decode cX10_image 15 = .ok (.if_icmp .ge 21, 3) := by decide +kernel
theorem dX10_image_18 : decode cX10_image 18 = .ok (.aload_n 0, 1) := by decide +kernel
theorem dX10_image_19 : decode cX10_image 19 = .ok (.getfield 45, 3) := by decide +kernel
theorem dX10_image_22 : decode cX10_image 22 = .ok (.iload_n 1, 1) := by decide +kernel
theorem dX10_image_23 : decode cX10_image 23 = .ok (.aload_n 0, 1) := by decide +kernel
theorem dX10_image_24 : decode cX10_image 24 = .ok (.getfield 19, 3) := by decide +kernel
theorem dX10_image_27 : decode cX10_image 27 = .ok (.iload_n 1, 1) := by decide +kernel
theorem dX10_image_28 : decode cX10_image 28 = .ok (.iaload, 1) := by decide +kernel
theorem dX10_image_29 : decode cX10_image 29 = .ok (.iastore, 1) := by decide +kernel
theorem dX10_image_30 : decode cX10_image 30 = .ok (.iinc 1 1, 3) := by decide +kernel
theorem dX10_image_33 : decode cX10_image 33 = .ok (.goto (-21), 3) := by decide +kernel
theorem dX10_image_36 : decode cX10_image 36 = .ok (.aload_n 0, 1) := by decide +kernel
theorem dX10_image_37 : decode cX10_image 37 = .ok (.aload_n 0, 1) := by decide +kernel
theorem dX10_image_38 : decode cX10_image 38 = .ok (.getfield 116, 3) := by decide +kernel
theorem dX10_image_41 : decode cX10_image 41 = .ok (.putfield 246, 3) := by decide +kernel
theorem dX10_image_44 : decode cX10_image 44 = .ok (.aload_n 0, 1) := by decide +kernel
theorem dX10_image_45 : decode cX10_image 45 = .ok (.aload_n 0, 1) := by decide +kernel
theorem dX10_image_46 : decode cX10_image 46 = .ok (.getfield 119, 3) := by decide +kernel
theorem dX10_image_49 : decode cX10_image 49 = .ok (.putfield 249, 3) := by decide +kernel
theorem dX10_image_52 : decode cX10_image 52 = .ok (.aload_n 0, 1) := by decide +kernel
theorem dX10_image_53 : decode cX10_image 53 = .ok (.aload_n 0, 1) := by decide +kernel
theorem dX10_image_54 : decode cX10_image 54 = .ok (.getfield 122, 3) := by decide +kernel
theorem dX10_image_57 : decode cX10_image 57 = .ok (.putfield 48, 3) := by decide +kernel
theorem dX10_image_60 : decode cX10_image 60 = .ok (.aload_n 0, 1) := by decide +kernel
theorem dX10_image_61 : decode cX10_image 61 = .ok (.getfield 119, 3) := by decide +kernel
theorem dX10_image_64 : decode cX10_image 64 = .ok (.ireturn, 1) := by decide +kernel
theorem dX10_restore_0 : decode cX10_restore 0 = .ok (.aload_n 0, 1) := by decide +kernel
theorem dX10_restore_1 : decode cX10_restore 1 = .ok (.getfield 48, 3) := by decide +kernel
theorem dX10_restore_4 : decode cX10_restore 4 = .ok (.iconst (-1), 1) := by decide +kernel
theorem dX10_restore_5 : decode cX10_restore 5 = .ok (.if_icmp .eq 14, 3) := by decide +kernel
theorem dX10_restore_8 : decode cX10_restore 8 = .ok (.aload_n 0, 1) := by decide +kernel
theorem dX10_restore_9 : decode cX10_restore 9 = .ok (.getfield 48, 3) := by decide +kernel
theorem dX10_restore_12 : decode cX10_restore 12 = .ok (.aload_n 0, 1) := by decide +kernel
theorem dX10_restore_13 : decode cX10_restore 13 = .ok (.getfield 122, 3) := by decide +kernel
theorem dX10_restore_16 : decode cX10_restore 16 = .ok (.if_icmp .eq 6, 3) := by decide +kernel
theorem dX10_restore_19 : decode cX10_restore 19 = .ok (.bipush (-103), 2) := by decide +kernel
theorem dX10_restore_21 : decode cX10_restore 21 = .ok (.ireturn, 1) := by decide +kernel
theorem dX10_restore_22 : decode cX10_restore 22 = .ok (.iconst 0, 1) := by decide +kernel
theorem dX10_restore_23 : decode cX10_restore 23 = .ok (.istore_n 1, 1) := by decide +kernel
theorem dX10_restore_24 : decode cX10_restore 24 = .ok (.iload_n 1, 1) := by decide +kernel
theorem dX10_restore_25 : decode cX10_restore 25 = .ok (.bipush 120, 2) := by decide +kernel
theorem dX10_restore_27 : decode cX10_restore 27 = .ok (.if_icmp .ge 21, 3) := by decide +kernel
theorem dX10_restore_30 : decode cX10_restore 30 = .ok (.aload_n 0, 1) := by decide +kernel
theorem dX10_restore_31 : decode cX10_restore 31 = .ok (.getfield 19, 3) := by decide +kernel
theorem dX10_restore_34 : decode cX10_restore 34 = .ok (.iload_n 1, 1) := by decide +kernel
theorem dX10_restore_35 : decode cX10_restore 35 = .ok (.aload_n 0, 1) := by decide +kernel
theorem dX10_restore_36 : decode cX10_restore 36 = .ok (.getfield 45, 3) := by decide +kernel
theorem dX10_restore_39 : decode cX10_restore 39 = .ok (.iload_n 1, 1) := by decide +kernel
theorem dX10_restore_40 : decode cX10_restore 40 = .ok (.iaload, 1) := by decide +kernel
theorem dX10_restore_41 : decode cX10_restore 41 = .ok (.iastore, 1) := by decide +kernel
theorem dX10_restore_42 : decode cX10_restore 42 = .ok (.iinc 1 1, 3) := by decide +kernel
theorem dX10_restore_45 : decode cX10_restore 45 = .ok (.goto (-21), 3) := by decide +kernel
theorem dX10_restore_48 : decode cX10_restore 48 = .ok (.aload_n 0, 1) := by decide +kernel
theorem dX10_restore_49 : decode cX10_restore 49 = .ok (.aload_n 0, 1) := by decide +kernel
theorem dX10_restore_50 : decode cX10_restore 50 = .ok (.getfield 246, 3) := by decide +kernel
theorem dX10_restore_53 : decode cX10_restore 53 = .ok (.putfield 116, 3) := by decide +kernel
theorem dX10_restore_56 : decode cX10_restore 56 = .ok (.aload_n 0, 1) := by decide +kernel
theorem dX10_restore_57 : decode cX10_restore 57 = .ok (.aload_n 0, 1) := by decide +kernel
theorem dX10_restore_58 : decode cX10_restore 58 = .ok (.getfield 249, 3) := by decide +kernel
theorem dX10_restore_61 : decode cX10_restore 61 = .ok (.putfield 119, 3) := by decide +kernel
theorem dX10_restore_64 : decode cX10_restore 64 = .ok (.aload_n 0, 1) := by decide +kernel
theorem dX10_restore_65 : decode cX10_restore 65 = .ok (.getfield 119, 3) := by decide +kernel
theorem dX10_restore_68 : decode cX10_restore 68 = .ok (.ireturn, 1) := by decide +kernel
set_option maxRecDepth 20000 in
theorem ggX10_countOf_X10_frogs : GoodIn wsX10_countOf wsX10_frogs := goodIn_r _ [10, 1, 2, 11, 12, 13, 9, 14, 15, 16, 17, 18, 19, 20, 21, 22, 23, 24, 25, 26, 27, 28, 29, 30, 31, 32, 33, 34, 35, 36, 37, 38, 39, 40, 41, 42, 43, 44, 45, 46, 47, 48] (by decide +kernel) (by decide +kernel)
set_option maxRecDepth 20000 in
theorem gX10_countOf_X10_frogs : GoodIn wsX10_countOf (wsV RX10 133 RX10 yX10_frogs wsX10_frogs) := goodIn_app (goodIn_of _ (by decide +kernel)) ggX10_countOf_X10_frogs
set_option maxRecDepth 20000 in
theorem ggX10_countOf_X10_howMany : GoodIn wsX10_countOf wsX10_howMany := goodIn_r _ [14, 1, 15, 16, 17, 18, 19, 20, 21, 22, 23, 24, 25, 26, 27, 28, 29, 30, 31, 32, 33, 34, 35, 36, 37, 38, 39, 40, 41, 42, 43, 44, 45, 46, 47, 48] (by decide +kernel) (by decide +kernel)
set_option maxRecDepth 20000 in
theorem gX10_countOf_X10_howMany : GoodIn wsX10_countOf (wsV RX10 125 RX10 yX10_howMany wsX10_howMany) := goodIn_app (goodIn_of _ (by decide +kernel)) ggX10_countOf_X10_howMany
theorem dX10_countOf_0 : decode cX10_countOf 0 = .ok (.iload_n 1, 1) := by decide +kernel
theorem dX10_countOf_1 : decode cX10_countOf 1 = .ok (.tableswitch 84 0 7 #[47, 52, 57, 57, 57, 69, 74, 79], 47) := by decide +kernel
theorem dX10_countOf_48 : decode cX10_countOf 48 = .ok (.aload_n 0, 1) := by decide +kernel
theorem dX10_countOf_49 : decode cX10_countOf 49 = .ok (.getfield 106, 3) := by decide +kernel
theorem dX10_countOf_52 : decode cX10_countOf 52 = .ok (.ireturn, 1) := by decide +kernel
theorem dX10_countOf_53 : decode cX10_countOf 53 = .ok (.aload_n 0, 1) := by decide +kernel
theorem dX10_countOf_54 : decode cX10_countOf 54 = .ok (.invokevirtual 133, 3) := by decide +kernel
theorem dX10_countOf_57 : decode cX10_countOf 57 = .ok (.ireturn, 1) := by decide +kernel
theorem dX10_countOf_58 : decode cX10_countOf 58 = .ok (.aload_n 0, 1) := by decide +kernel
theorem dX10_countOf_59 : decode cX10_countOf 59 = .ok (.aload_n 0, 1) := by decide +kernel
theorem dX10_countOf_60 : decode cX10_countOf 60 = .ok (.getfield 116, 3) := by decide +kernel
theorem dX10_countOf_63 : decode cX10_countOf 63 = .ok (.iload_n 1, 1) := by decide +kernel
theorem dX10_countOf_64 : decode cX10_countOf 64 = .ok (.iconst 1, 1) := by decide +kernel
theorem dX10_countOf_65 : decode cX10_countOf 65 = .ok (.isub, 1) := by decide +kernel
theorem dX10_countOf_66 : decode cX10_countOf 66 = .ok (.invokevirtual 125, 3) := by decide +kernel
theorem dX10_countOf_69 : decode cX10_countOf 69 = .ok (.ireturn, 1) := by decide +kernel
theorem dX10_countOf_70 : decode cX10_countOf 70 = .ok (.aload_n 0, 1) := by decide +kernel
theorem dX10_countOf_71 : decode cX10_countOf 71 = .ok (.getfield 119, 3) := by decide +kernel
theorem dX10_countOf_74 : decode cX10_countOf 74 = .ok (.ireturn, 1) := by decide +kernel
theorem dX10_countOf_75 : decode cX10_countOf 75 = .ok (.aload_n 0, 1) := by decide +kernel
theorem dX10_countOf_76 : decode cX10_countOf 76 = .ok (.getfield 57, 3) := by decide +kernel
theorem dX10_countOf_79 : decode cX10_countOf 79 = .ok (.ireturn, 1) := by decide +kernel
theorem dX10_countOf_80 : decode cX10_countOf 80 = .ok (.aload_n 0, 1) := by decide +kernel
theorem dX10_countOf_81 : decode cX10_countOf 81 = .ok (.getfield 122, 3) := by decide +kernel
theorem dX10_countOf_84 : decode cX10_countOf 84 = .ok (.ireturn, 1) := by decide +kernel
theorem dX10_countOf_85 : decode cX10_countOf 85 = .ok (.bipush (-102), 2) := by decide +kernel
theorem dX10_countOf_87 : decode cX10_countOf 87 = .ok (.ireturn, 1) := by decide +kernel
set_option maxRecDepth 20000 in
theorem ggX10_count_X10_countOf : GoodIn wsX10_count wsX10_countOf := goodIn_r _ [5, 6, 7, 8, 9, 10, 11, 12, 13, 4, 14, 15, 16, 17, 18, 19, 20, 21, 22, 23, 24, 25, 26, 27, 28, 29, 30, 31, 32, 33, 34, 35, 36, 37, 38, 39, 40, 41, 42, 43, 44, 45, 46, 47, 48, 49, 50, 51, 52] (by decide +kernel) (by decide +kernel)
set_option maxRecDepth 20000 in
theorem gX10_count_X10_countOf : GoodIn wsX10_count (wsV RX10 252 RX10 yX10_countOf wsX10_countOf) := goodIn_app (goodIn_of _ (by decide +kernel)) ggX10_count_X10_countOf
theorem dX10_count_0 : decode cX10_count 0 = .ok (.aload_n 0, 1) := by decide +kernel
theorem dX10_count_1 : decode cX10_count 1 = .ok (.iload_n 1, 1) := by decide +kernel
theorem dX10_count_2 : decode cX10_count 2 = .ok (.invokevirtual 252, 3) := by decide +kernel
theorem dX10_count_5 : decode cX10_count 5 = .ok (.ireturn, 1) := by decide +kernel
theorem dX10_say_0 : decode cX10_say 0 = .ok (.aload_n 0, 1) := by decide +kernel
theorem dX10_say_1 : decode cX10_say 1 = .ok (.ldc2_w 255, 3) := by decide +kernel
theorem dX10_say_4 : decode cX10_say 4 = .ok (.aload_n 0, 1) := by decide +kernel
theorem dX10_say_5 : decode cX10_say 5 = .ok (.getfield 257, 3) := by decide +kernel
theorem dX10_say_8 : decode cX10_say 8 = .ok (.lmul, 1) := by decide +kernel
theorem dX10_say_9 : decode cX10_say 9 = .ok (.lload_n 1, 1) := by decide +kernel
theorem dX10_say_10 : decode cX10_say 10 = .ok (.ladd, 1) := by decide +kernel
theorem dX10_say_11 : decode cX10_say 11 = .ok (.putfield 257, 3) := by decide +kernel
theorem dX10_say_14 : decode cX10_say 14 = .ok (.return_, 1) := by decide +kernel
set_option maxRecDepth 20000 in
theorem ggX10_sayOrders_X10_canGo : GoodIn wsX10_sayOrders wsX10_canGo := goodIn_r _ [8, 9, 10, 11, 12, 7, 13, 14, 15, 16, 17, 18, 19, 20, 21, 22, 23, 24, 25, 26, 27, 1, 28, 29, 30, 31, 32, 76, 77, 78, 79, 80, 81, 82, 83, 84, 85, 86, 87, 88, 89, 90, 91, 92, 93, 94, 95, 96, 97, 98, 99, 100, 101, 102, 103, 104, 105, 106, 107, 108, 109] (by decide +kernel) (by decide +kernel)
set_option maxRecDepth 20000 in
theorem gX10_sayOrders_X10_canGo : GoodIn wsX10_sayOrders (wsV RX10 164 RX10 yX10_canGo wsX10_canGo) := goodIn_app (goodIn_of _ (by decide +kernel)) ggX10_sayOrders_X10_canGo
set_option maxRecDepth 20000 in
theorem ggX10_sayOrders_X10_say : GoodIn wsX10_sayOrders wsX10_say := goodIn_r _ [36, 37, 38, 76, 77, 78, 79, 80, 81, 82, 83, 84, 85, 86, 87, 88, 89, 90, 91, 92, 93, 94, 95, 96, 97, 98, 99, 100, 101, 102, 103, 104, 105, 106, 107, 108, 109] (by decide +kernel) (by decide +kernel)
set_option maxRecDepth 20000 in
theorem gX10_sayOrders_X10_say : GoodIn wsX10_sayOrders (wsV RX10 261 RX10 yX10_say wsX10_say) := goodIn_app (goodIn_of _ (by decide +kernel)) ggX10_sayOrders_X10_say
set_option maxRecDepth 20000 in
theorem ggX10_sayOrders_X10_layRow : GoodIn wsX10_sayOrders wsX10_layRow := goodIn_r _ [42, 43, 44, 45, 2, 1, 46, 47, 48, 7, 49, 50, 51, 52, 4, 5, 6, 8, 9, 10, 11, 12, 13, 14, 15, 16, 17, 18, 19, 20, 21, 22, 23, 24, 25, 26, 27, 28, 29, 30, 31, 32, 53, 54, 55, 76, 77, 78, 79, 80, 81, 82, 83, 84, 85, 86, 87, 88, 89, 90, 91, 92, 93, 94, 95, 96, 97, 98, 99, 100, 101, 102, 103, 104, 105, 106, 107, 108, 109] (by decide +kernel) (by decide +kernel)
set_option maxRecDepth 20000 in
theorem gX10_sayOrders_X10_layRow : GoodIn wsX10_sayOrders (wsV RX10 186 RX10 yX10_layRow wsX10_layRow) := goodIn_app (goodIn_of _ (by decide +kernel)) ggX10_sayOrders_X10_layRow
set_option maxRecDepth 20000 in
theorem ggX10_sayOrders_X10_reachNow : GoodIn wsX10_sayOrders wsX10_reachNow := goodIn_r _ [59, 43, 45, 50, 60, 61, 62, 7, 63, 1, 4, 5, 6, 8, 9, 10, 11, 12, 13, 14, 15, 16, 17, 18, 19, 20, 21, 22, 23, 24, 25, 26, 27, 28, 29, 30, 31, 32, 76, 77, 78, 79, 80, 81, 82, 83, 84, 85, 86, 87, 88, 89, 90, 91, 92, 93, 94, 95, 96, 97, 98, 99, 100, 101, 102, 103, 104, 105, 106, 107, 108, 109] (by decide +kernel) (by decide +kernel)
set_option maxRecDepth 20000 in
theorem gX10_sayOrders_X10_reachNow : GoodIn wsX10_sayOrders (wsV RX10 203 RX10 yX10_reachNow wsX10_reachNow) := goodIn_app (goodIn_of _ (by decide +kernel)) ggX10_sayOrders_X10_reachNow
set_option maxRecDepth 20000 in
theorem ggX10_sayOrders_X10_fewestNow : GoodIn wsX10_sayOrders wsX10_fewestNow := goodIn_r _ [67, 44, 3, 50, 76, 77, 78, 79, 80, 81, 82, 83, 84, 85, 86, 87, 88, 89, 90, 91, 92, 93, 94, 95, 96, 97, 98, 99, 100, 101, 102, 103, 104, 105, 106, 107, 108, 109] (by decide +kernel) (by decide +kernel)
set_option maxRecDepth 20000 in
theorem gX10_sayOrders_X10_fewestNow : GoodIn wsX10_sayOrders (wsV RX10 189 RX10 yX10_fewestNow wsX10_fewestNow) := goodIn_app (goodIn_of _ (by decide +kernel)) ggX10_sayOrders_X10_fewestNow
set_option maxRecDepth 20000 in
theorem ggX10_sayOrders_X10_waysNow : GoodIn wsX10_sayOrders wsX10_waysNow := goodIn_r _ [71, 44, 3, 51, 76, 77, 78, 79, 80, 81, 82, 83, 84, 85, 86, 87, 88, 89, 90, 91, 92, 93, 94, 95, 96, 97, 98, 99, 100, 101, 102, 103, 104, 105, 106, 107, 108, 109] (by decide +kernel) (by decide +kernel)
set_option maxRecDepth 20000 in
theorem gX10_sayOrders_X10_waysNow : GoodIn wsX10_sayOrders (wsV RX10 194 RX10 yX10_waysNow wsX10_waysNow) := goodIn_app (goodIn_of _ (by decide +kernel)) ggX10_sayOrders_X10_waysNow
set_option maxRecDepth 20000 in
theorem ggX10_sayOrders_X10_byNow : GoodIn wsX10_sayOrders wsX10_byNow := goodIn_r _ [75, 44, 3, 43, 52, 1, 50, 45, 2, 4, 5, 6, 7, 8, 9, 10, 11, 12, 13, 14, 15, 16, 17, 18, 19, 20, 21, 22, 23, 24, 25, 26, 27, 28, 29, 30, 31, 32, 53, 54, 55, 76, 77, 78, 79, 80, 81, 82, 83, 84, 85, 86, 87, 88, 89, 90, 91, 92, 93, 94, 95, 96, 97, 98, 99, 100, 101, 102, 103, 104, 105, 106, 107, 108, 109] (by decide +kernel) (by decide +kernel)
set_option maxRecDepth 20000 in
theorem gX10_sayOrders_X10_byNow : GoodIn wsX10_sayOrders (wsV RX10 198 RX10 yX10_byNow wsX10_byNow) := goodIn_app (goodIn_of _ (by decide +kernel)) ggX10_sayOrders_X10_byNow
theorem dX10_sayOrders_0 : decode cX10_sayOrders 0 = .ok (.iconst 0, 1) := by decide +kernel
theorem dX10_sayOrders_1 : decode cX10_sayOrders 1 = .ok (.istore_n 1, 1) := by decide +kernel
theorem dX10_sayOrders_2 : decode cX10_sayOrders 2 = .ok (.iload_n 1, 1) := by decide +kernel
theorem dX10_sayOrders_3 : decode cX10_sayOrders 3 = .ok (.aload_n 0, 1) := by decide +kernel
theorem dX10_sayOrders_4 : decode cX10_sayOrders 4 = .ok (.getfield 106, 3) := by decide +kernel
theorem dX10_sayOrders_7 : decode cX10_sayOrders 7 = .ok (.aload_n 0, 1) := by decide +kernel
theorem dX10_sayOrders_8 : decode cX10_sayOrders 8 = .ok (.getfield 106, 3) := by decide +kernel
theorem dX10_sayOrders_11 : decode cX10_sayOrders 11 = .ok (.imul, 1) := by decide +kernel
theorem dX10_sayOrders_12 : decode cX10_sayOrders 12 = .ok (.if_icmp .ge 53, 3) := by decide +kernel
theorem dX10_sayOrders_15 : decode cX10_sayOrders 15 = .ok (.aload_n 0, 1) := by decide +kernel
theorem dX10_sayOrders_16 : decode cX10_sayOrders 16 = .ok (.aload_n 0, 1) := by decide +kernel
theorem dX10_sayOrders_17 : decode cX10_sayOrders 17 = .ok (.getfield 116, 3) := by decide +kernel
theorem dX10_sayOrders_20 : decode cX10_sayOrders 20 = .ok (.iload_n 1, 1) := by decide +kernel
theorem dX10_sayOrders_21 : decode cX10_sayOrders 21 = .ok (.aload_n 0, 1) := by decide +kernel
theorem dX10_sayOrders_22 : decode cX10_sayOrders 22 = .ok (.getfield 106, 3) := by decide +kernel
theorem dX10_sayOrders_25 : decode cX10_sayOrders 25 = .ok (.idiv, 1) := by decide +kernel
theorem dX10_sayOrders_26 : decode cX10_sayOrders 26 = .ok (.iload_n 1, 1) := by decide +kernel
theorem dX10_sayOrders_27 : decode cX10_sayOrders 27 = .ok (.aload_n 0, 1) := by decide +kernel
theorem dX10_sayOrders_28 : decode cX10_sayOrders 28 = .ok (.getfield 106, 3) := by decide +kernel
theorem dX10_sayOrders_31 : decode cX10_sayOrders 31 = .ok (.irem, 1) := by decide +kernel
theorem dX10_sayOrders_32 : decode cX10_sayOrders 32 = .ok (.invokevirtual 164, 3) := by decide +kernel
theorem dX10_sayOrders_35 : decode cX10_sayOrders 35 = .ok (.ifCond .eq 24, 3) := by decide +kernel
theorem dX10_sayOrders_38 : decode cX10_sayOrders 38 = .ok (.aload_n 0, 1) := by decide +kernel
theorem dX10_sayOrders_39 : decode cX10_sayOrders 39 = .ok (.bipush 16, 2) := by decide +kernel
theorem dX10_sayOrders_41 : decode cX10_sayOrders 41 = .ok (.iload_n 1, 1) := by decide +kernel
theorem dX10_sayOrders_42 : decode cX10_sayOrders 42 = .ok (.aload_n 0, 1) := by decide +kernel
theorem dX10_sayOrders_43 : decode cX10_sayOrders 43 = .ok (.getfield 106, 3) := by decide +kernel
theorem dX10_sayOrders_46 : decode cX10_sayOrders 46 = .ok (.idiv, 1) := by decide +kernel
theorem dX10_sayOrders_47 : decode cX10_sayOrders 47 = .ok (.imul, 1) := by decide +kernel
theorem dX10_sayOrders_48 : decode cX10_sayOrders 48 = .ok (.iload_n 1, 1) := by decide +kernel
theorem dX10_sayOrders_49 : decode cX10_sayOrders 49 = .ok (.aload_n 0, 1) := by decide +kernel
theorem dX10_sayOrders_50 : decode cX10_sayOrders 50 = .ok (.getfield 106, 3) := by decide +kernel
theorem dX10_sayOrders_53 : decode cX10_sayOrders 53 = .ok (.irem, 1) := by decide +kernel
theorem dX10_sayOrders_54 : decode cX10_sayOrders 54 = .ok (.iadd, 1) := by decide +kernel
theorem dX10_sayOrders_55 : decode cX10_sayOrders 55 = .ok (.i2l, 1) := by decide +kernel
theorem dX10_sayOrders_56 : decode cX10_sayOrders 56 = .ok (.invokevirtual 261, 3) := by decide +kernel
theorem dX10_sayOrders_59 : decode cX10_sayOrders 59 = .ok (.iinc 1 1, 3) := by decide +kernel
theorem dX10_sayOrders_62 : decode cX10_sayOrders 62 = .ok (.goto (-60), 3) := by decide +kernel
theorem dX10_sayOrders_65 : decode cX10_sayOrders 65 = .ok (.aload_n 0, 1) := by decide +kernel
theorem dX10_sayOrders_66 : decode cX10_sayOrders 66 = .ok (.invokevirtual 186, 3) := by decide +kernel
theorem dX10_sayOrders_69 : decode cX10_sayOrders 69 = .ok (.iconst 0, 1) := by decide +kernel
theorem dX10_sayOrders_70 : decode cX10_sayOrders 70 = .ok (.istore_n 1, 1) := by decide +kernel
theorem dX10_sayOrders_71 : decode cX10_sayOrders 71 = .ok (.iload_n 1, 1) := by decide +kernel
theorem dX10_sayOrders_72 : decode cX10_sayOrders 72 = .ok (.iconst 3, 1) := by decide +kernel
theorem dX10_sayOrders_73 : decode cX10_sayOrders 73 = .ok (.if_icmp .ge 19, 3) := by decide +kernel
theorem dX10_sayOrders_76 : decode cX10_sayOrders 76 = .ok (.aload_n 0, 1) := by decide +kernel
theorem dX10_sayOrders_77 : decode cX10_sayOrders 77 = .ok (.aload_n 0, 1) := by decide +kernel
theorem dX10_sayOrders_78 : decode cX10_sayOrders 78 = .ok (.iload_n 1, 1) := by decide +kernel
theorem dX10_sayOrders_79 : decode cX10_sayOrders 79 = .ok (.invokevirtual 203, 3) := by decide +kernel
theorem dX10_sayOrders_82 : decode cX10_sayOrders 82 = .ok (.i2l, 1) := by decide +kernel
theorem dX10_sayOrders_83 : decode cX10_sayOrders 83 = .ok (.invokevirtual 261, 3) := by decide +kernel
theorem dX10_sayOrders_86 : decode cX10_sayOrders 86 = .ok (.iinc 1 1, 3) := by decide +kernel
theorem dX10_sayOrders_89 : decode cX10_sayOrders 89 = .ok (.goto (-18), 3) := by decide +kernel
theorem dX10_sayOrders_92 : decode cX10_sayOrders 92 = .ok (.aload_n 0, 1) := by decide +kernel
theorem dX10_sayOrders_93 : decode cX10_sayOrders 93 = .ok (.getfield 52, 3) := by decide +kernel
theorem dX10_sayOrders_96 : decode cX10_sayOrders 96 = .ok (.iconst (-1), 1) := by decide +kernel
theorem dX10_sayOrders_97 : decode cX10_sayOrders 97 = .ok (.if_icmp .eq 29, 3) := by decide +kernel
theorem dX10_sayOrders_100 : decode cX10_sayOrders 100 = .ok (.aload_n 0, 1) := by decide +kernel
theorem dX10_sayOrders_101 : decode cX10_sayOrders 101 = .ok (.aload_n 0, 1) := by decide +kernel
theorem dX10_sayOrders_102 : decode cX10_sayOrders 102 = .ok (.invokevirtual 189, 3) := by decide +kernel
theorem dX10_sayOrders_105 : decode cX10_sayOrders 105 = .ok (.i2l, 1) := by decide +kernel
theorem dX10_sayOrders_106 : decode cX10_sayOrders 106 = .ok (.invokevirtual 261, 3) := by decide +kernel
theorem dX10_sayOrders_109 : decode cX10_sayOrders 109 = .ok (.aload_n 0, 1) := by decide +kernel
theorem dX10_sayOrders_110 : decode cX10_sayOrders 110 = .ok (.aload_n 0, 1) := by decide +kernel
theorem dX10_sayOrders_111 : decode cX10_sayOrders 111 = .ok (.invokevirtual 194, 3) := by decide +kernel
theorem dX10_sayOrders_114 : decode cX10_sayOrders 114 = .ok (.invokevirtual 261, 3) := by decide +kernel
theorem dX10_sayOrders_117 : decode cX10_sayOrders 117 = .ok (.aload_n 0, 1) := by decide +kernel
theorem dX10_sayOrders_118 : decode cX10_sayOrders 118 = .ok (.aload_n 0, 1) := by decide +kernel
theorem dX10_sayOrders_119 : decode cX10_sayOrders 119 = .ok (.invokevirtual 198, 3) := by decide +kernel
theorem dX10_sayOrders_122 : decode cX10_sayOrders 122 = .ok (.i2l, 1) := by decide +kernel
theorem dX10_sayOrders_123 : decode cX10_sayOrders 123 = .ok (.invokevirtual 261, 3) := by decide +kernel
theorem dX10_sayOrders_126 : decode cX10_sayOrders 126 = .ok (.return_, 1) := by decide +kernel
set_option maxRecDepth 20000 in
theorem ggX10_digest_X10_tellStone : GoodIn wsX10_digest wsX10_tellStone := goodIn_r _ [10, 11, 12, 13, 14, 15, 9, 16, 17, 18, 19, 20, 21, 22, 23, 24, 25, 3, 108, 109, 110, 111, 112, 113, 114, 115, 116, 117, 118, 119, 120, 121, 122, 123, 124, 125, 126, 127, 128, 129, 130, 131, 132, 133, 134, 135, 136, 137, 138, 139, 140, 141] (by decide +kernel) (by decide +kernel)
set_option maxRecDepth 20000 in
theorem gX10_digest_X10_tellStone : GoodIn wsX10_digest (wsV RX10 148 RX10 yX10_tellStone wsX10_tellStone) := goodIn_app (goodIn_of _ (by decide +kernel)) ggX10_digest_X10_tellStone
set_option maxRecDepth 20000 in
theorem ggX10_digest_X10_say : GoodIn wsX10_digest wsX10_say := goodIn_r _ [29, 30, 2, 108, 109, 110, 111, 112, 113, 114, 115, 116, 117, 118, 119, 120, 121, 122, 123, 124, 125, 126, 127, 128, 129, 130, 131, 132, 133, 134, 135, 136, 137, 138, 139, 140, 141] (by decide +kernel) (by decide +kernel)
set_option maxRecDepth 20000 in
theorem gX10_digest_X10_say : GoodIn wsX10_digest (wsV RX10 261 RX10 yX10_say wsX10_say) := goodIn_app (goodIn_of _ (by decide +kernel)) ggX10_digest_X10_say
set_option maxRecDepth 20000 in
theorem ggX10_digest_X10_lacks : GoodIn wsX10_digest wsX10_lacks := goodIn_r _ [34, 3, 108, 109, 110, 111, 112, 113, 114, 115, 116, 117, 118, 119, 120, 121, 122, 123, 124, 125, 126, 127, 128, 129, 130, 131, 132, 133, 134, 135, 136, 137, 138, 139, 140, 141] (by decide +kernel) (by decide +kernel)
set_option maxRecDepth 20000 in
theorem gX10_digest_X10_lacks : GoodIn wsX10_digest (wsV RX10 129 RX10 yX10_lacks wsX10_lacks) := goodIn_app (goodIn_of _ (by decide +kernel)) ggX10_digest_X10_lacks
set_option maxRecDepth 20000 in
theorem ggX10_digest_X10_sayOrders : GoodIn wsX10_digest wsX10_sayOrders := goodIn_r _ [38, 3, 11, 12, 39, 40, 41, 9, 42, 43, 13, 14, 15, 16, 44, 45, 46, 47, 48, 49, 50, 51, 20, 21, 22, 23, 24, 25, 52, 53, 54, 55, 56, 26, 27, 28, 29, 30, 2, 57, 58, 59, 60, 61, 62, 63, 64, 65, 66, 67, 68, 69, 70, 71, 72, 73, 74, 75, 76, 77, 78, 79, 80, 81, 82, 83, 84, 85, 86, 87, 88, 89, 90, 91, 92, 93, 108, 109, 110, 111, 112, 113, 114, 115, 116, 117, 118, 119, 120, 121, 122, 123, 124, 125, 126, 127, 128, 129, 130, 131, 132, 133, 134, 135, 136, 137, 138, 139, 140, 141] (by decide +kernel) (by decide +kernel)
set_option maxRecDepth 20000 in
theorem gX10_digest_X10_sayOrders : GoodIn wsX10_digest (wsV RX10 267 RX10 yX10_sayOrders wsX10_sayOrders) := goodIn_app (goodIn_of _ (by decide +kernel)) ggX10_digest_X10_sayOrders
set_option maxRecDepth 20000 in
theorem ggX10_digest_X10_countOf : GoodIn wsX10_digest wsX10_countOf := goodIn_r _ [97, 3, 11, 98, 4, 99, 100, 101, 102, 9, 103, 104, 105, 106, 107, 108, 109, 110, 111, 112, 113, 114, 115, 116, 117, 118, 119, 120, 121, 122, 123, 124, 125, 126, 127, 128, 129, 130, 131, 132, 133, 134, 135, 136, 137, 138, 139, 140, 141] (by decide +kernel) (by decide +kernel)
set_option maxRecDepth 20000 in
theorem gX10_digest_X10_countOf : GoodIn wsX10_digest (wsV RX10 252 RX10 yX10_countOf wsX10_countOf) := goodIn_app (goodIn_of _ (by decide +kernel)) ggX10_digest_X10_countOf
theorem dX10_digest_0 : decode cX10_digest 0 = .ok (.aload_n 0, 1) := by decide +kernel
theorem dX10_digest_1 : decode cX10_digest 1 = .ok (.ldc2_w 265, 3) := by decide +kernel
theorem dX10_digest_4 : decode cX10_digest 4 = .ok (.putfield 257, 3) := by decide +kernel
theorem dX10_digest_7 : decode cX10_digest 7 = .ok (.iconst 0, 1) := by decide +kernel
theorem dX10_digest_8 : decode cX10_digest 8 = .ok (.istore_n 1, 1) := by decide +kernel
theorem dX10_digest_9 : decode cX10_digest 9 = .ok (.iload_n 1, 1) := by decide +kernel
theorem dX10_digest_10 : decode cX10_digest 10 = .ok (.aload_n 0, 1) := by decide +kernel
theorem dX10_digest_11 : decode cX10_digest 11 = .ok (.getfield 106, 3) := by decide +kernel
theorem dX10_digest_14 : decode cX10_digest 14 = .ok (.if_icmp .ge 33, 3) := by decide +kernel
theorem dX10_digest_17 : decode cX10_digest 17 = .ok (.iconst 0, 1) := by decide +kernel
theorem dX10_digest_18 : decode cX10_digest 18 = .ok (.istore_n 2, 1) := by decide +kernel
theorem dX10_digest_19 : decode cX10_digest 19 = .ok (.iload_n 2, 1) := by decide +kernel
theorem dX10_digest_20 : decode cX10_digest 20 = .ok (.iconst 3, 1) := by decide +kernel
theorem dX10_digest_21 : decode cX10_digest 21 = .ok (.if_icmp .ge 20, 3) := by decide +kernel
theorem dX10_digest_24 : decode cX10_digest 24 = .ok (.aload_n 0, 1) := by decide +kernel
theorem dX10_digest_25 : decode cX10_digest 25 = .ok (.aload_n 0, 1) := by decide +kernel
theorem dX10_digest_26 : decode cX10_digest 26 = .ok (.iload_n 1, 1) := by decide +kernel
theorem dX10_digest_27 : decode cX10_digest 27 = .ok (.iload_n 2, 1) := by decide +kernel
theorem dX10_digest_28 : decode cX10_digest 28 = .ok (.invokevirtual 148, 3) := by decide +kernel
theorem dX10_digest_31 : decode cX10_digest 31 = .ok (.i2l, 1) := by decide +kernel
theorem dX10_digest_32 : decode cX10_digest 32 = .ok (.invokevirtual 261, 3) := by decide +kernel
theorem dX10_digest_35 : decode cX10_digest 35 = .ok (.iinc 2 1, 3) := by decide +kernel
theorem dX10_digest_38 : decode cX10_digest 38 = .ok (.goto (-19), 3) := by decide +kernel
theorem dX10_digest_41 : decode cX10_digest 41 = .ok (.iinc 1 1, 3) := by decide +kernel
theorem dX10_digest_44 : decode cX10_digest 44 = .ok (.goto (-35), 3) := by decide +kernel
theorem dX10_digest_47 : decode cX10_digest 47 = .ok (.aload_n 0, 1) := by decide +kernel
theorem dX10_digest_48 : decode cX10_digest 48 = .ok (.invokevirtual 129, 3) := by decide +kernel
theorem dX10_digest_51 : decode cX10_digest 51 = .ok (.ifCond .ne 7, 3) := by decide +kernel
theorem dX10_digest_54 : decode cX10_digest 54 = .ok (.aload_n 0, 1) := by decide +kernel
theorem dX10_digest_55 : decode cX10_digest 55 = .ok (.invokevirtual 267, 3) := by decide +kernel
theorem dX10_digest_58 : decode cX10_digest 58 = .ok (.iconst 0, 1) := by decide +kernel
theorem dX10_digest_59 : decode cX10_digest 59 = .ok (.istore_n 1, 1) := by decide +kernel
theorem dX10_digest_60 : decode cX10_digest 60 = .ok (.iload_n 1, 1) := by decide +kernel
theorem dX10_digest_61 : decode cX10_digest 61 = .ok (.aload_n 0, 1) := by decide +kernel
theorem dX10_digest_62 : decode cX10_digest 62 = .ok (.getfield 57, 3) := by decide +kernel
theorem dX10_digest_65 : decode cX10_digest 65 = .ok (.if_icmp .ge 20, 3) := by decide +kernel
theorem dX10_digest_68 : decode cX10_digest 68 = .ok (.aload_n 0, 1) := by decide +kernel
theorem dX10_digest_69 : decode cX10_digest 69 = .ok (.aload_n 0, 1) := by decide +kernel
theorem dX10_digest_70 : decode cX10_digest 70 = .ok (.getfield 7, 3) := by decide +kernel
theorem dX10_digest_73 : decode cX10_digest 73 = .ok (.iload_n 1, 1) := by decide +kernel
theorem dX10_digest_74 : decode cX10_digest 74 = .ok (.iaload, 1) := by decide +kernel
theorem dX10_digest_75 : decode cX10_digest 75 = .ok (.i2l, 1) := by decide +kernel
theorem dX10_digest_76 : decode cX10_digest 76 = .ok (.invokevirtual 261, 3) := by decide +kernel
theorem dX10_digest_79 : decode cX10_digest 79 = .ok (.iinc 1 1, 3) := by decide +kernel
theorem dX10_digest_82 : decode cX10_digest 82 = .ok (.goto (-22), 3) := by decide +kernel
theorem dX10_digest_85 : decode cX10_digest 85 = .ok (.iconst 0, 1) := by decide +kernel
theorem dX10_digest_86 : decode cX10_digest 86 = .ok (.istore_n 1, 1) := by decide +kernel
theorem dX10_digest_87 : decode cX10_digest 87 = .ok (.iload_n 1, 1) := by decide +kernel
theorem dX10_digest_88 : decode cX10_digest 88 = .ok (.bipush 8, 2) := by decide +kernel
theorem dX10_digest_90 : decode cX10_digest 90 = .ok (.if_icmp .ge 19, 3) := by decide +kernel
theorem dX10_digest_93 : decode cX10_digest 93 = .ok (.aload_n 0, 1) := by decide +kernel
theorem dX10_digest_94 : decode cX10_digest 94 = .ok (.aload_n 0, 1) := by decide +kernel
theorem dX10_digest_95 : decode cX10_digest 95 = .ok (.iload_n 1, 1) := by decide +kernel
theorem dX10_digest_96 : decode cX10_digest 96 = .ok (.invokevirtual 252, 3) := by decide +kernel
theorem dX10_digest_99 : decode cX10_digest 99 = .ok (.i2l, 1) := by decide +kernel
theorem dX10_digest_100 : decode cX10_digest 100 = .ok (.invokevirtual 261, 3) := by decide +kernel
theorem dX10_digest_103 : decode cX10_digest 103 = .ok (.iinc 1 1, 3) := by decide +kernel
theorem dX10_digest_106 : decode cX10_digest 106 = .ok (.goto (-19), 3) := by decide +kernel
theorem dX10_digest_109 : decode cX10_digest 109 = .ok (.aload_n 0, 1) := by decide +kernel
theorem dX10_digest_110 : decode cX10_digest 110 = .ok (.getfield 257, 3) := by decide +kernel
theorem dX10_digest_113 : decode cX10_digest 113 = .ok (.lreturn, 1) := by decide +kernel
theorem dJ6_bitCount_0f7a4_0 : decode cJ6_bitCount_0f7a4 0 = .ok (.iload_n 0, 1) := by decide +kernel
theorem dJ6_bitCount_0f7a4_1 : decode cJ6_bitCount_0f7a4 1 = .ok (.iload_n 0, 1) := by decide +kernel
theorem dJ6_bitCount_0f7a4_2 : decode cJ6_bitCount_0f7a4 2 = .ok (.iconst 1, 1) := by decide +kernel
theorem dJ6_bitCount_0f7a4_3 : decode cJ6_bitCount_0f7a4 3 = .ok (.iushr, 1) := by decide +kernel
theorem dJ6_bitCount_0f7a4_4 : decode cJ6_bitCount_0f7a4 4 = .ok (.ldc_w 265, 3) := by decide +kernel
theorem dJ6_bitCount_0f7a4_7 : decode cJ6_bitCount_0f7a4 7 = .ok (.iand, 1) := by decide +kernel
theorem dJ6_bitCount_0f7a4_8 : decode cJ6_bitCount_0f7a4 8 = .ok (.isub, 1) := by decide +kernel
theorem dJ6_bitCount_0f7a4_9 : decode cJ6_bitCount_0f7a4 9 = .ok (.istore_n 0, 1) := by decide +kernel
theorem dJ6_bitCount_0f7a4_10 : decode cJ6_bitCount_0f7a4 10 = .ok (.iload_n 0, 1) := by decide +kernel
theorem dJ6_bitCount_0f7a4_11 : decode cJ6_bitCount_0f7a4 11 = .ok (.ldc_w 266, 3) := by decide +kernel
theorem dJ6_bitCount_0f7a4_14 : decode cJ6_bitCount_0f7a4 14 = .ok (.iand, 1) := by decide +kernel
theorem dJ6_bitCount_0f7a4_15 : decode cJ6_bitCount_0f7a4 15 = .ok (.iload_n 0, 1) := by decide +kernel
theorem dJ6_bitCount_0f7a4_16 : decode cJ6_bitCount_0f7a4 16 = .ok (.iconst 2, 1) := by decide +kernel
theorem dJ6_bitCount_0f7a4_17 : decode cJ6_bitCount_0f7a4 17 = .ok (.iushr, 1) := by decide +kernel
theorem dJ6_bitCount_0f7a4_18 : decode cJ6_bitCount_0f7a4 18 = .ok (.ldc_w 266, 3) := by decide +kernel
theorem dJ6_bitCount_0f7a4_21 : decode cJ6_bitCount_0f7a4 21 = .ok (.iand, 1) := by decide +kernel
theorem dJ6_bitCount_0f7a4_22 : decode cJ6_bitCount_0f7a4 22 = .ok (.iadd, 1) := by decide +kernel
theorem dJ6_bitCount_0f7a4_23 : decode cJ6_bitCount_0f7a4 23 = .ok (.istore_n 0, 1) := by decide +kernel
theorem dJ6_bitCount_0f7a4_24 : decode cJ6_bitCount_0f7a4 24 = .ok (.iload_n 0, 1) := by decide +kernel
theorem dJ6_bitCount_0f7a4_25 : decode cJ6_bitCount_0f7a4 25 = .ok (.iload_n 0, 1) := by decide +kernel
theorem dJ6_bitCount_0f7a4_26 : decode cJ6_bitCount_0f7a4 26 = .ok (.iconst 4, 1) := by decide +kernel
theorem dJ6_bitCount_0f7a4_27 : decode cJ6_bitCount_0f7a4 27 = .ok (.iushr, 1) := by decide +kernel
theorem dJ6_bitCount_0f7a4_28 : decode cJ6_bitCount_0f7a4 28 = .ok (.iadd, 1) := by decide +kernel
theorem dJ6_bitCount_0f7a4_29 : decode cJ6_bitCount_0f7a4 29 = .ok (.ldc_w 267, 3) := by decide +kernel
theorem dJ6_bitCount_0f7a4_32 : decode cJ6_bitCount_0f7a4 32 = .ok (.iand, 1) := by decide +kernel
theorem dJ6_bitCount_0f7a4_33 : decode cJ6_bitCount_0f7a4 33 = .ok (.istore_n 0, 1) := by decide +kernel
theorem dJ6_bitCount_0f7a4_34 : decode cJ6_bitCount_0f7a4 34 = .ok (.iload_n 0, 1) := by decide +kernel
theorem dJ6_bitCount_0f7a4_35 : decode cJ6_bitCount_0f7a4 35 = .ok (.iload_n 0, 1) := by decide +kernel
theorem dJ6_bitCount_0f7a4_36 : decode cJ6_bitCount_0f7a4 36 = .ok (.bipush 8, 2) := by decide +kernel
theorem dJ6_bitCount_0f7a4_38 : decode cJ6_bitCount_0f7a4 38 = .ok (.iushr, 1) := by decide +kernel
theorem dJ6_bitCount_0f7a4_39 : decode cJ6_bitCount_0f7a4 39 = .ok (.iadd, 1) := by decide +kernel
theorem dJ6_bitCount_0f7a4_40 : decode cJ6_bitCount_0f7a4 40 = .ok (.istore_n 0, 1) := by decide +kernel
theorem dJ6_bitCount_0f7a4_41 : decode cJ6_bitCount_0f7a4 41 = .ok (.iload_n 0, 1) := by decide +kernel
theorem dJ6_bitCount_0f7a4_42 : decode cJ6_bitCount_0f7a4 42 = .ok (.iload_n 0, 1) := by decide +kernel
theorem dJ6_bitCount_0f7a4_43 : decode cJ6_bitCount_0f7a4 43 = .ok (.bipush 16, 2) := by decide +kernel
theorem dJ6_bitCount_0f7a4_45 : decode cJ6_bitCount_0f7a4 45 = .ok (.iushr, 1) := by decide +kernel
theorem dJ6_bitCount_0f7a4_46 : decode cJ6_bitCount_0f7a4 46 = .ok (.iadd, 1) := by decide +kernel
theorem dJ6_bitCount_0f7a4_47 : decode cJ6_bitCount_0f7a4 47 = .ok (.istore_n 0, 1) := by decide +kernel
theorem dJ6_bitCount_0f7a4_48 : decode cJ6_bitCount_0f7a4 48 = .ok (.iload_n 0, 1) := by decide +kernel
theorem dJ6_bitCount_0f7a4_49 : decode cJ6_bitCount_0f7a4 49 = .ok (.bipush 63, 2) := by decide +kernel
theorem dJ6_bitCount_0f7a4_51 : decode cJ6_bitCount_0f7a4 51 = .ok (.iand, 1) := by decide +kernel
theorem dJ6_bitCount_0f7a4_52 : decode cJ6_bitCount_0f7a4 52 = .ok (.ireturn, 1) := by decide +kernel
theorem dJ9_max_7cf53_0 : decode cJ9_max_7cf53 0 = .ok (.iload_n 0, 1) := by decide +kernel
theorem dJ9_max_7cf53_1 : decode cJ9_max_7cf53 1 = .ok (.iload_n 1, 1) := by decide +kernel
theorem dJ9_max_7cf53_2 : decode cJ9_max_7cf53 2 = .ok (.if_icmp .lt 7, 3) := by decide +kernel
theorem dJ9_max_7cf53_5 : decode cJ9_max_7cf53 5 = .ok (.iload_n 0, 1) := by decide +kernel
theorem dJ9_max_7cf53_6 : decode cJ9_max_7cf53 6 = .ok (.goto 4, 3) := by decide +kernel
theorem dJ9_max_7cf53_9 : decode cJ9_max_7cf53 9 = .ok (.iload_n 1, 1) := by decide +kernel
theorem dJ9_max_7cf53_10 : decode cJ9_max_7cf53 10 = .ok (.ireturn, 1) := by decide +kernel
theorem dJ9_min_7cf53_0 : decode cJ9_min_7cf53 0 = .ok (.iload_n 0, 1) := by decide +kernel
theorem dJ9_min_7cf53_1 : decode cJ9_min_7cf53 1 = .ok (.iload_n 1, 1) := by decide +kernel
theorem dJ9_min_7cf53_2 : decode cJ9_min_7cf53 2 = .ok (.if_icmp .gt 7, 3) := by decide +kernel
theorem dJ9_min_7cf53_5 : decode cJ9_min_7cf53 5 = .ok (.iload_n 0, 1) := by decide +kernel
theorem dJ9_min_7cf53_6 : decode cJ9_min_7cf53 6 = .ok (.goto 4, 3) := by decide +kernel
theorem dJ9_min_7cf53_9 : decode cJ9_min_7cf53 9 = .ok (.iload_n 1, 1) := by decide +kernel
theorem dJ9_min_7cf53_10 : decode cJ9_min_7cf53 10 = .ok (.ireturn, 1) := by decide +kernel
theorem dJ7_fill_53178_0 : decode cJ7_fill_53178 0 = .ok (.iconst 0, 1) := by decide +kernel
theorem dJ7_fill_53178_1 : decode cJ7_fill_53178 1 = .ok (.istore_n 2, 1) := by decide +kernel
theorem dJ7_fill_53178_2 : decode cJ7_fill_53178 2 = .ok (.aload_n 0, 1) := by decide +kernel
theorem dJ7_fill_53178_3 : decode cJ7_fill_53178 3 = .ok (.arraylength, 1) := by decide +kernel
theorem dJ7_fill_53178_4 : decode cJ7_fill_53178 4 = .ok (.istore_n 3, 1) := by decide +kernel
theorem dJ7_fill_53178_5 : decode cJ7_fill_53178 5 = .ok (.iload_n 2, 1) := by decide +kernel
theorem dJ7_fill_53178_6 : decode cJ7_fill_53178 6 = .ok (.iload_n 3, 1) := by decide +kernel
theorem dJ7_fill_53178_7 : decode cJ7_fill_53178 7 = .ok (.if_icmp .ge 13, 3) := by decide +kernel
theorem dJ7_fill_53178_10 : decode cJ7_fill_53178 10 = .ok (.aload_n 0, 1) := by decide +kernel
theorem dJ7_fill_53178_11 : decode cJ7_fill_53178 11 = .ok (.iload_n 2, 1) := by decide +kernel
theorem dJ7_fill_53178_12 : decode cJ7_fill_53178 12 = .ok (.iload_n 1, 1) := by decide +kernel
theorem dJ7_fill_53178_13 : decode cJ7_fill_53178 13 = .ok (.iastore, 1) := by decide +kernel
theorem dJ7_fill_53178_14 : decode cJ7_fill_53178 14 = .ok (.iinc 2 1, 3) := by decide +kernel
theorem dJ7_fill_53178_17 : decode cJ7_fill_53178 17 = .ok (.goto (-12), 3) := by decide +kernel
theorem dJ7_fill_53178_20 : decode cJ7_fill_53178 20 = .ok (.return_, 1) := by decide +kernel
theorem dL_law_0 : decode cL_law 0 = .ok (.new 7, 3) := by decide +kernel
theorem dL_law_3 : decode cL_law 3 = .ok (.dup, 1) := by decide +kernel
theorem dL_law_4 : decode cL_law 4 = .ok (.invokespecial 9, 3) := by decide +kernel
theorem dL_law_7 : decode cL_law 7 = .ok (.astore_n 1, 1) := by decide +kernel
theorem dL_law_8 : decode cL_law 8 = .ok (.new 10, 3) := by decide +kernel
theorem dL_law_11 : decode cL_law 11 = .ok (.dup, 1) := by decide +kernel
theorem dL_law_12 : decode cL_law 12 = .ok (.invokespecial 12, 3) := by decide +kernel
theorem dL_law_15 : decode cL_law 15 = .ok (.astore_n 2, 1) := by decide +kernel
theorem dL_law_16 : decode cL_law 16 = .ok (.iconst 0, 1) := by decide +kernel
theorem dL_law_17 : decode cL_law 17 = .ok (.istore_n 3, 1) := by decide +kernel
theorem dL_law_18 : decode cL_law 18 = .ok (.iload_n 3, 1) := by decide +kernel
theorem dL_law_19 : decode cL_law 19 = .ok (.aload_n 0, 1) := by decide +kernel
theorem dL_law_20 : decode cL_law 20 = .ok (.arraylength, 1) := by decide +kernel
theorem dL_law_21 : decode cL_law 21 = .ok (.iconst 4, 1) := by decide +kernel
theorem dL_law_22 : decode cL_law 22 = .ok (.isub, 1) := by decide +kernel
theorem dL_law_23 : decode cL_law 23 = .ok (.if_icmp .gt 695, 3) := by decide +kernel
theorem dL_law_26 : decode cL_law 26 = .ok (.aload_n 0, 1) := by decide +kernel
theorem dL_law_27 : decode cL_law 27 = .ok (.iload_n 3, 1) := by decide +kernel
theorem dL_law_28 : decode cL_law 28 = .ok (.iaload, 1) := by decide +kernel
theorem dL_law_29 : decode cL_law 29 = .ok (.bipush 31, 2) := by decide +kernel
theorem dL_law_31 : decode cL_law 31 = .ok (.iand, 1) := by decide +kernel
theorem dL_law_32 : decode cL_law 32 = .ok (.tableswitch 680 0 25 #[120, 173, 186, 199, 212, 225, 258, 291, 324, 357, 370, 383, 406, 419, 433, 446, 469, 482, 515, 548, 591, 604, 617, 630, 643, 666], 120) := by decide +kernel
theorem dL_law_152 : decode cL_law 152 = .ok (.aload_n 1, 1) := by decide +kernel
theorem dL_law_153 : decode cL_law 153 = .ok (.aload_n 0, 1) := by decide +kernel
theorem dL_law_154 : decode cL_law 154 = .ok (.iload_n 3, 1) := by decide +kernel
theorem dL_law_155 : decode cL_law 155 = .ok (.iconst 1, 1) := by decide +kernel
theorem dL_law_156 : decode cL_law 156 = .ok (.iadd, 1) := by decide +kernel
theorem dL_law_157 : decode cL_law 157 = .ok (.iaload, 1) := by decide +kernel
theorem dL_law_158 : decode cL_law 158 = .ok (.i2l, 1) := by decide +kernel
theorem dL_law_159 : decode cL_law 159 = .ok (.bipush 32, 2) := by decide +kernel
theorem dL_law_161 : decode cL_law 161 = .ok (.lshl, 1) := by decide +kernel
theorem dL_law_162 : decode cL_law 162 = .ok (.aload_n 0, 1) := by decide +kernel
theorem dL_law_163 : decode cL_law 163 = .ok (.iload_n 3, 1) := by decide +kernel
theorem dL_law_164 : decode cL_law 164 = .ok (.iconst 2, 1) := by decide +kernel
theorem dL_law_165 : decode cL_law 165 = .ok (.iadd, 1) := by decide +kernel
theorem dL_law_166 : decode cL_law 166 = .ok (.iaload, 1) := by decide +kernel
theorem dL_law_167 : decode cL_law 167 = .ok (.i2l, 1) := by decide +kernel
theorem dL_law_168 : decode cL_law 168 = .ok (.ldc2_w 13, 3) := by decide +kernel
theorem dL_law_171 : decode cL_law 171 = .ok (.land, 1) := by decide +kernel
theorem dL_law_172 : decode cL_law 172 = .ok (.lor, 1) := by decide +kernel
theorem dL_law_173 : decode cL_law 173 = .ok (.invokevirtual 15, 3) := by decide +kernel
theorem dL_law_176 : decode cL_law 176 = .ok (.aload_n 2, 1) := by decide +kernel
theorem dL_law_177 : decode cL_law 177 = .ok (.aload_n 0, 1) := by decide +kernel
theorem dL_law_178 : decode cL_law 178 = .ok (.iload_n 3, 1) := by decide +kernel
theorem dL_law_179 : decode cL_law 179 = .ok (.iconst 1, 1) := by decide +kernel
theorem dL_law_180 : decode cL_law 180 = .ok (.iadd, 1) := by decide +kernel
theorem dL_law_181 : decode cL_law 181 = .ok (.iaload, 1) := by decide +kernel
theorem dL_law_182 : decode cL_law 182 = .ok (.i2l, 1) := by decide +kernel
theorem dL_law_183 : decode cL_law 183 = .ok (.bipush 32, 2) := by decide +kernel
theorem dL_law_185 : decode cL_law 185 = .ok (.lshl, 1) := by decide +kernel
theorem dL_law_186 : decode cL_law 186 = .ok (.aload_n 0, 1) := by decide +kernel
theorem dL_law_187 : decode cL_law 187 = .ok (.iload_n 3, 1) := by decide +kernel
theorem dL_law_188 : decode cL_law 188 = .ok (.iconst 2, 1) := by decide +kernel
theorem dL_law_189 : decode cL_law 189 = .ok (.iadd, 1) := by decide +kernel
theorem dL_law_190 : decode cL_law 190 = .ok (.iaload, 1) := by decide +kernel
theorem dL_law_191 : decode cL_law 191 = .ok (.i2l, 1) := by decide +kernel
theorem dL_law_192 : decode cL_law 192 = .ok (.ldc2_w 13, 3) := by decide +kernel
theorem dL_law_195 : decode cL_law 195 = .ok (.land, 1) := by decide +kernel
theorem dL_law_196 : decode cL_law 196 = .ok (.lor, 1) := by decide +kernel
theorem dL_law_197 : decode cL_law 197 = .ok (.invokevirtual 19, 3) := by decide +kernel
theorem dL_law_200 : decode cL_law 200 = .ok (.if_icmp .eq 512, 3) := by decide +kernel
theorem dL_law_203 : decode cL_law 203 = .ok (.iconst 0, 1) := by decide +kernel
theorem dL_law_204 : decode cL_law 204 = .ok (.ireturn, 1) := by decide +kernel
theorem dL_law_205 : decode cL_law 205 = .ok (.aload_n 1, 1) := by decide +kernel
theorem dL_law_206 : decode cL_law 206 = .ok (.invokevirtual 20, 3) := by decide +kernel
theorem dL_law_209 : decode cL_law 209 = .ok (.aload_n 2, 1) := by decide +kernel
theorem dL_law_210 : decode cL_law 210 = .ok (.invokevirtual 24, 3) := by decide +kernel
theorem dL_law_213 : decode cL_law 213 = .ok (.if_icmp .eq 499, 3) := by decide +kernel
theorem dL_law_216 : decode cL_law 216 = .ok (.iconst 0, 1) := by decide +kernel
theorem dL_law_217 : decode cL_law 217 = .ok (.ireturn, 1) := by decide +kernel
theorem dL_law_218 : decode cL_law 218 = .ok (.aload_n 1, 1) := by decide +kernel
theorem dL_law_219 : decode cL_law 219 = .ok (.invokevirtual 25, 3) := by decide +kernel
theorem dL_law_222 : decode cL_law 222 = .ok (.aload_n 2, 1) := by decide +kernel
theorem dL_law_223 : decode cL_law 223 = .ok (.invokevirtual 28, 3) := by decide +kernel
theorem dL_law_226 : decode cL_law 226 = .ok (.if_icmp .eq 486, 3) := by decide +kernel
theorem dL_law_229 : decode cL_law 229 = .ok (.iconst 0, 1) := by decide +kernel
theorem dL_law_230 : decode cL_law 230 = .ok (.ireturn, 1) := by decide +kernel
theorem dL_law_231 : decode cL_law 231 = .ok (.aload_n 1, 1) := by decide +kernel
theorem dL_law_232 : decode cL_law 232 = .ok (.invokevirtual 29, 3) := by decide +kernel
theorem dL_law_235 : decode cL_law 235 = .ok (.aload_n 2, 1) := by decide +kernel
theorem dL_law_236 : decode cL_law 236 = .ok (.invokevirtual 32, 3) := by decide +kernel
theorem dL_law_239 : decode cL_law 239 = .ok (.if_icmp .eq 473, 3) := by decide +kernel
theorem dL_law_242 : decode cL_law 242 = .ok (.iconst 0, 1) := by decide +kernel
theorem dL_law_243 : decode cL_law 243 = .ok (.ireturn, 1) := by decide +kernel
theorem dL_law_244 : decode cL_law 244 = .ok (.aload_n 1, 1) := by decide +kernel
theorem dL_law_245 : decode cL_law 245 = .ok (.invokevirtual 33, 3) := by decide +kernel
theorem dL_law_248 : decode cL_law 248 = .ok (.aload_n 2, 1) := by decide +kernel
theorem dL_law_249 : decode cL_law 249 = .ok (.invokevirtual 36, 3) := by decide +kernel
theorem dL_law_252 : decode cL_law 252 = .ok (.if_icmp .eq 460, 3) := by decide +kernel
theorem dL_law_255 : decode cL_law 255 = .ok (.iconst 0, 1) := by decide +kernel
theorem dL_law_256 : decode cL_law 256 = .ok (.ireturn, 1) := by decide +kernel
theorem dL_law_257 : decode cL_law 257 = .ok (.aload_n 1, 1) := by decide +kernel
theorem dL_law_258 : decode cL_law 258 = .ok (.aload_n 0, 1) := by decide +kernel
theorem dL_law_259 : decode cL_law 259 = .ok (.iload_n 3, 1) := by decide +kernel
theorem dL_law_260 : decode cL_law 260 = .ok (.iconst 1, 1) := by decide +kernel
theorem dL_law_261 : decode cL_law 261 = .ok (.iadd, 1) := by decide +kernel
theorem dL_law_262 : decode cL_law 262 = .ok (.iaload, 1) := by decide +kernel
theorem dL_law_263 : decode cL_law 263 = .ok (.aload_n 0, 1) := by decide +kernel
theorem dL_law_264 : decode cL_law 264 = .ok (.iload_n 3, 1) := by decide +kernel
theorem dL_law_265 : decode cL_law 265 = .ok (.iconst 2, 1) := by decide +kernel
theorem dL_law_266 : decode cL_law 266 = .ok (.iadd, 1) := by decide +kernel
theorem dL_law_267 : decode cL_law 267 = .ok (.iaload, 1) := by decide +kernel
theorem dL_law_268 : decode cL_law 268 = .ok (.invokevirtual 37, 3) := by decide +kernel
theorem dL_law_271 : decode cL_law 271 = .ok (.aload_n 2, 1) := by decide +kernel
theorem dL_law_272 : decode cL_law 272 = .ok (.aload_n 0, 1) := by decide +kernel
theorem dL_law_273 : decode cL_law 273 = .ok (.iload_n 3, 1) := by decide +kernel
theorem dL_law_274 : decode cL_law 274 = .ok (.iconst 1, 1) := by decide +kernel
theorem dL_law_275 : decode cL_law 275 = .ok (.iadd, 1) := by decide +kernel
theorem dL_law_276 : decode cL_law 276 = .ok (.iaload, 1) := by decide +kernel
theorem dL_law_277 : decode cL_law 277 = .ok (.aload_n 0, 1) := by decide +kernel
theorem dL_law_278 : decode cL_law 278 = .ok (.iload_n 3, 1) := by decide +kernel
theorem dL_law_279 : decode cL_law 279 = .ok (.iconst 2, 1) := by decide +kernel
theorem dL_law_280 : decode cL_law 280 = .ok (.iadd, 1) := by decide +kernel
theorem dL_law_281 : decode cL_law 281 = .ok (.iaload, 1) := by decide +kernel
theorem dL_law_282 : decode cL_law 282 = .ok (.invokevirtual 41, 3) := by decide +kernel
theorem dL_law_285 : decode cL_law 285 = .ok (.if_icmp .eq 427, 3) := by decide +kernel
theorem dL_law_288 : decode cL_law 288 = .ok (.iconst 0, 1) := by decide +kernel
theorem dL_law_289 : decode cL_law 289 = .ok (.ireturn, 1) := by decide +kernel
theorem dL_law_290 : decode cL_law 290 = .ok (.aload_n 1, 1) := by decide +kernel
theorem dL_law_291 : decode cL_law 291 = .ok (.aload_n 0, 1) := by decide +kernel
theorem dL_law_292 : decode cL_law 292 = .ok (.iload_n 3, 1) := by decide +kernel
theorem dL_law_293 : decode cL_law 293 = .ok (.iconst 1, 1) := by decide +kernel
theorem dL_law_294 : decode cL_law 294 = .ok (.iadd, 1) := by decide +kernel
theorem dL_law_295 : decode cL_law 295 = .ok (.iaload, 1) := by decide +kernel
theorem dL_law_296 : decode cL_law 296 = .ok (.aload_n 0, 1) := by decide +kernel
theorem dL_law_297 : decode cL_law 297 = .ok (.iload_n 3, 1) := by decide +kernel
theorem dL_law_298 : decode cL_law 298 = .ok (.iconst 2, 1) := by decide +kernel
theorem dL_law_299 : decode cL_law 299 = .ok (.iadd, 1) := by decide +kernel
theorem dL_law_300 : decode cL_law 300 = .ok (.iaload, 1) := by decide +kernel
theorem dL_law_301 : decode cL_law 301 = .ok (.invokevirtual 42, 3) := by decide +kernel
theorem dL_law_304 : decode cL_law 304 = .ok (.aload_n 2, 1) := by decide +kernel
theorem dL_law_305 : decode cL_law 305 = .ok (.aload_n 0, 1) := by decide +kernel
theorem dL_law_306 : decode cL_law 306 = .ok (.iload_n 3, 1) := by decide +kernel
theorem dL_law_307 : decode cL_law 307 = .ok (.iconst 1, 1) := by decide +kernel
theorem dL_law_308 : decode cL_law 308 = .ok (.iadd, 1) := by decide +kernel
theorem dL_law_309 : decode cL_law 309 = .ok (.iaload, 1) := by decide +kernel
theorem dL_law_310 : decode cL_law 310 = .ok (.aload_n 0, 1) := by decide +kernel
theorem dL_law_311 : decode cL_law 311 = .ok (.iload_n 3, 1) := by decide +kernel
theorem dL_law_312 : decode cL_law 312 = .ok (.iconst 2, 1) := by decide +kernel
theorem dL_law_313 : decode cL_law 313 = .ok (.iadd, 1) := by decide +kernel
theorem dL_law_314 : decode cL_law 314 = .ok (.iaload, 1) := by decide +kernel
theorem dL_law_315 : decode cL_law 315 = .ok (.invokevirtual 45, 3) := by decide +kernel
theorem dL_law_318 : decode cL_law 318 = .ok (.if_icmp .eq 394, 3) := by decide +kernel
theorem dL_law_321 : decode cL_law 321 = .ok (.iconst 0, 1) := by decide +kernel
theorem dL_law_322 : decode cL_law 322 = .ok (.ireturn, 1) := by decide +kernel
theorem dL_law_323 : decode cL_law 323 = .ok (.aload_n 1, 1) := by decide +kernel
theorem dL_law_324 : decode cL_law 324 = .ok (.aload_n 0, 1) := by decide +kernel
theorem dL_law_325 : decode cL_law 325 = .ok (.iload_n 3, 1) := by decide +kernel
theorem dL_law_326 : decode cL_law 326 = .ok (.iconst 1, 1) := by decide +kernel
theorem dL_law_327 : decode cL_law 327 = .ok (.iadd, 1) := by decide +kernel
theorem dL_law_328 : decode cL_law 328 = .ok (.iaload, 1) := by decide +kernel
theorem dL_law_329 : decode cL_law 329 = .ok (.aload_n 0, 1) := by decide +kernel
theorem dL_law_330 : decode cL_law 330 = .ok (.iload_n 3, 1) := by decide +kernel
theorem dL_law_331 : decode cL_law 331 = .ok (.iconst 2, 1) := by decide +kernel
theorem dL_law_332 : decode cL_law 332 = .ok (.iadd, 1) := by decide +kernel
theorem dL_law_333 : decode cL_law 333 = .ok (.iaload, 1) := by decide +kernel
theorem dL_law_334 : decode cL_law 334 = .ok (.invokevirtual 46, 3) := by decide +kernel
theorem dL_law_337 : decode cL_law 337 = .ok (.aload_n 2, 1) := by decide +kernel
theorem dL_law_338 : decode cL_law 338 = .ok (.aload_n 0, 1) := by decide +kernel
theorem dL_law_339 : decode cL_law 339 = .ok (.iload_n 3, 1) := by decide +kernel
theorem dL_law_340 : decode cL_law 340 = .ok (.iconst 1, 1) := by decide +kernel
theorem dL_law_341 : decode cL_law 341 = .ok (.iadd, 1) := by decide +kernel
theorem dL_law_342 : decode cL_law 342 = .ok (.iaload, 1) := by decide +kernel
theorem dL_law_343 : decode cL_law 343 = .ok (.aload_n 0, 1) := by decide +kernel
theorem dL_law_344 : decode cL_law 344 = .ok (.iload_n 3, 1) := by decide +kernel
theorem dL_law_345 : decode cL_law 345 = .ok (.iconst 2, 1) := by decide +kernel
theorem dL_law_346 : decode cL_law 346 = .ok (.iadd, 1) := by decide +kernel
theorem dL_law_347 : decode cL_law 347 = .ok (.iaload, 1) := by decide +kernel
theorem dL_law_348 : decode cL_law 348 = .ok (.invokevirtual 49, 3) := by decide +kernel
theorem dL_law_351 : decode cL_law 351 = .ok (.if_icmp .eq 361, 3) := by decide +kernel
theorem dL_law_354 : decode cL_law 354 = .ok (.iconst 0, 1) := by decide +kernel
theorem dL_law_355 : decode cL_law 355 = .ok (.ireturn, 1) := by decide +kernel
theorem dL_law_356 : decode cL_law 356 = .ok (.aload_n 1, 1) := by decide +kernel
theorem dL_law_357 : decode cL_law 357 = .ok (.aload_n 0, 1) := by decide +kernel
theorem dL_law_358 : decode cL_law 358 = .ok (.iload_n 3, 1) := by decide +kernel
theorem dL_law_359 : decode cL_law 359 = .ok (.iconst 1, 1) := by decide +kernel
theorem dL_law_360 : decode cL_law 360 = .ok (.iadd, 1) := by decide +kernel
theorem dL_law_361 : decode cL_law 361 = .ok (.iaload, 1) := by decide +kernel
theorem dL_law_362 : decode cL_law 362 = .ok (.aload_n 0, 1) := by decide +kernel
theorem dL_law_363 : decode cL_law 363 = .ok (.iload_n 3, 1) := by decide +kernel
theorem dL_law_364 : decode cL_law 364 = .ok (.iconst 2, 1) := by decide +kernel
theorem dL_law_365 : decode cL_law 365 = .ok (.iadd, 1) := by decide +kernel
theorem dL_law_366 : decode cL_law 366 = .ok (.iaload, 1) := by decide +kernel
theorem dL_law_367 : decode cL_law 367 = .ok (.invokevirtual 50, 3) := by decide +kernel
theorem dL_law_370 : decode cL_law 370 = .ok (.aload_n 2, 1) := by decide +kernel
theorem dL_law_371 : decode cL_law 371 = .ok (.aload_n 0, 1) := by decide +kernel
theorem dL_law_372 : decode cL_law 372 = .ok (.iload_n 3, 1) := by decide +kernel
theorem dL_law_373 : decode cL_law 373 = .ok (.iconst 1, 1) := by decide +kernel
theorem dL_law_374 : decode cL_law 374 = .ok (.iadd, 1) := by decide +kernel
theorem dL_law_375 : decode cL_law 375 = .ok (.iaload, 1) := by decide +kernel
theorem dL_law_376 : decode cL_law 376 = .ok (.aload_n 0, 1) := by decide +kernel
theorem dL_law_377 : decode cL_law 377 = .ok (.iload_n 3, 1) := by decide +kernel
theorem dL_law_378 : decode cL_law 378 = .ok (.iconst 2, 1) := by decide +kernel
theorem dL_law_379 : decode cL_law 379 = .ok (.iadd, 1) := by decide +kernel
theorem dL_law_380 : decode cL_law 380 = .ok (.iaload, 1) := by decide +kernel
theorem dL_law_381 : decode cL_law 381 = .ok (.invokevirtual 53, 3) := by decide +kernel
theorem dL_law_384 : decode cL_law 384 = .ok (.if_icmp .eq 328, 3) := by decide +kernel
theorem dL_law_387 : decode cL_law 387 = .ok (.iconst 0, 1) := by decide +kernel
theorem dL_law_388 : decode cL_law 388 = .ok (.ireturn, 1) := by decide +kernel
theorem dL_law_389 : decode cL_law 389 = .ok (.aload_n 1, 1) := by decide +kernel
theorem dL_law_390 : decode cL_law 390 = .ok (.invokevirtual 54, 3) := by decide +kernel
theorem dL_law_393 : decode cL_law 393 = .ok (.aload_n 2, 1) := by decide +kernel
theorem dL_law_394 : decode cL_law 394 = .ok (.invokevirtual 57, 3) := by decide +kernel
theorem dL_law_397 : decode cL_law 397 = .ok (.if_icmp .eq 315, 3) := by decide +kernel
theorem dL_law_400 : decode cL_law 400 = .ok (.iconst 0, 1) := by decide +kernel
theorem dL_law_401 : decode cL_law 401 = .ok (.ireturn, 1) := by decide +kernel
theorem dL_law_402 : decode cL_law 402 = .ok (.aload_n 1, 1) := by decide +kernel
theorem dL_law_403 : decode cL_law 403 = .ok (.invokevirtual 58, 3) := by decide +kernel
theorem dL_law_406 : decode cL_law 406 = .ok (.aload_n 2, 1) := by decide +kernel
theorem dL_law_407 : decode cL_law 407 = .ok (.invokevirtual 61, 3) := by decide +kernel
theorem dL_law_410 : decode cL_law 410 = .ok (.if_icmp .eq 302, 3) := by decide +kernel
theorem dL_law_413 : decode cL_law 413 = .ok (.iconst 0, 1) := by decide +kernel
theorem dL_law_414 : decode cL_law 414 = .ok (.ireturn, 1) := by decide +kernel
theorem dL_law_415 : decode cL_law 415 = .ok (.aload_n 1, 1) := by decide +kernel
theorem dL_law_416 : decode cL_law 416 = .ok (.aload_n 0, 1) := by decide +kernel
theorem dL_law_417 : decode cL_law 417 = .ok (.iload_n 3, 1) := by decide +kernel
theorem dL_law_418 : decode cL_law 418 = .ok (.iconst 1, 1) := by decide +kernel
theorem dL_law_419 : decode cL_law 419 = .ok (.iadd, 1) := by decide +kernel
theorem dL_law_420 : decode cL_law 420 = .ok (.iaload, 1) := by decide +kernel
theorem dL_law_421 : decode cL_law 421 = .ok (.invokevirtual 62, 3) := by decide +kernel
theorem dL_law_424 : decode cL_law 424 = .ok (.aload_n 2, 1) := by decide +kernel
theorem dL_law_425 : decode cL_law 425 = .ok (.aload_n 0, 1) := by decide +kernel
theorem dL_law_426 : decode cL_law 426 = .ok (.iload_n 3, 1) := by decide +kernel
theorem dL_law_427 : decode cL_law 427 = .ok (.iconst 1, 1) := by decide +kernel
theorem dL_law_428 : decode cL_law 428 = .ok (.iadd, 1) := by decide +kernel
theorem dL_law_429 : decode cL_law 429 = .ok (.iaload, 1) := by decide +kernel
theorem dL_law_430 : decode cL_law 430 = .ok (.invokevirtual 66, 3) := by decide +kernel
theorem dL_law_433 : decode cL_law 433 = .ok (.if_icmp .eq 279, 3) := by decide +kernel
theorem dL_law_436 : decode cL_law 436 = .ok (.iconst 0, 1) := by decide +kernel
theorem dL_law_437 : decode cL_law 437 = .ok (.ireturn, 1) := by decide +kernel
theorem dL_law_438 : decode cL_law 438 = .ok (.aload_n 1, 1) := by decide +kernel
theorem dL_law_439 : decode cL_law 439 = .ok (.invokevirtual 67, 3) := by decide +kernel
theorem dL_law_442 : decode cL_law 442 = .ok (.aload_n 2, 1) := by decide +kernel
theorem dL_law_443 : decode cL_law 443 = .ok (.invokevirtual 70, 3) := by decide +kernel
theorem dL_law_446 : decode cL_law 446 = .ok (.if_icmp .eq 266, 3) := by decide +kernel
theorem dL_law_449 : decode cL_law 449 = .ok (.iconst 0, 1) := by decide +kernel
theorem dL_law_450 : decode cL_law 450 = .ok (.ireturn, 1) := by decide +kernel
theorem dL_law_451 : decode cL_law 451 = .ok (.aload_n 1, 1) := by decide +kernel
theorem dL_law_452 : decode cL_law 452 = .ok (.invokevirtual 71, 3) := by decide +kernel
theorem dL_law_455 : decode cL_law 455 = .ok (.aload_n 2, 1) := by decide +kernel
theorem dL_law_456 : decode cL_law 456 = .ok (.invokevirtual 75, 3) := by decide +kernel
theorem dL_law_459 : decode cL_law 459 = .ok (.lcmp, 1) := by decide +kernel
theorem dL_law_460 : decode cL_law 460 = .ok (.ifCond .eq 252, 3) := by decide +kernel
theorem dL_law_463 : decode cL_law 463 = .ok (.iconst 0, 1) := by decide +kernel
theorem dL_law_464 : decode cL_law 464 = .ok (.ireturn, 1) := by decide +kernel
theorem dL_law_465 : decode cL_law 465 = .ok (.aload_n 1, 1) := by decide +kernel
theorem dL_law_466 : decode cL_law 466 = .ok (.invokevirtual 76, 3) := by decide +kernel
theorem dL_law_469 : decode cL_law 469 = .ok (.aload_n 2, 1) := by decide +kernel
theorem dL_law_470 : decode cL_law 470 = .ok (.invokevirtual 79, 3) := by decide +kernel
theorem dL_law_473 : decode cL_law 473 = .ok (.if_icmp .eq 239, 3) := by decide +kernel
theorem dL_law_476 : decode cL_law 476 = .ok (.iconst 0, 1) := by decide +kernel
theorem dL_law_477 : decode cL_law 477 = .ok (.ireturn, 1) := by decide +kernel
theorem dL_law_478 : decode cL_law 478 = .ok (.aload_n 1, 1) := by decide +kernel
theorem dL_law_479 : decode cL_law 479 = .ok (.aload_n 0, 1) := by decide +kernel
theorem dL_law_480 : decode cL_law 480 = .ok (.iload_n 3, 1) := by decide +kernel
theorem dL_law_481 : decode cL_law 481 = .ok (.iconst 1, 1) := by decide +kernel
theorem dL_law_482 : decode cL_law 482 = .ok (.iadd, 1) := by decide +kernel
theorem dL_law_483 : decode cL_law 483 = .ok (.iaload, 1) := by decide +kernel
theorem dL_law_484 : decode cL_law 484 = .ok (.invokevirtual 80, 3) := by decide +kernel
theorem dL_law_487 : decode cL_law 487 = .ok (.aload_n 2, 1) := by decide +kernel
theorem dL_law_488 : decode cL_law 488 = .ok (.aload_n 0, 1) := by decide +kernel
theorem dL_law_489 : decode cL_law 489 = .ok (.iload_n 3, 1) := by decide +kernel
theorem dL_law_490 : decode cL_law 490 = .ok (.iconst 1, 1) := by decide +kernel
theorem dL_law_491 : decode cL_law 491 = .ok (.iadd, 1) := by decide +kernel
theorem dL_law_492 : decode cL_law 492 = .ok (.iaload, 1) := by decide +kernel
theorem dL_law_493 : decode cL_law 493 = .ok (.invokevirtual 83, 3) := by decide +kernel
theorem dL_law_496 : decode cL_law 496 = .ok (.if_icmp .eq 216, 3) := by decide +kernel
theorem dL_law_499 : decode cL_law 499 = .ok (.iconst 0, 1) := by decide +kernel
theorem dL_law_500 : decode cL_law 500 = .ok (.ireturn, 1) := by decide +kernel
theorem dL_law_501 : decode cL_law 501 = .ok (.aload_n 1, 1) := by decide +kernel
theorem dL_law_502 : decode cL_law 502 = .ok (.invokevirtual 84, 3) := by decide +kernel
theorem dL_law_505 : decode cL_law 505 = .ok (.aload_n 2, 1) := by decide +kernel
theorem dL_law_506 : decode cL_law 506 = .ok (.invokevirtual 87, 3) := by decide +kernel
theorem dL_law_509 : decode cL_law 509 = .ok (.if_icmp .eq 203, 3) := by decide +kernel
theorem dL_law_512 : decode cL_law 512 = .ok (.iconst 0, 1) := by decide +kernel
theorem dL_law_513 : decode cL_law 513 = .ok (.ireturn, 1) := by decide +kernel
theorem dL_law_514 : decode cL_law 514 = .ok (.aload_n 1, 1) := by decide +kernel
theorem dL_law_515 : decode cL_law 515 = .ok (.aload_n 0, 1) := by decide +kernel
theorem dL_law_516 : decode cL_law 516 = .ok (.iload_n 3, 1) := by decide +kernel
theorem dL_law_517 : decode cL_law 517 = .ok (.iconst 1, 1) := by decide +kernel
theorem dL_law_518 : decode cL_law 518 = .ok (.iadd, 1) := by decide +kernel
theorem dL_law_519 : decode cL_law 519 = .ok (.iaload, 1) := by decide +kernel
theorem dL_law_520 : decode cL_law 520 = .ok (.aload_n 0, 1) := by decide +kernel
theorem dL_law_521 : decode cL_law 521 = .ok (.iload_n 3, 1) := by decide +kernel
theorem dL_law_522 : decode cL_law 522 = .ok (.iconst 2, 1) := by decide +kernel
theorem dL_law_523 : decode cL_law 523 = .ok (.iadd, 1) := by decide +kernel
theorem dL_law_524 : decode cL_law 524 = .ok (.iaload, 1) := by decide +kernel
theorem dL_law_525 : decode cL_law 525 = .ok (.invokevirtual 88, 3) := by decide +kernel
theorem dL_law_528 : decode cL_law 528 = .ok (.aload_n 2, 1) := by decide +kernel
theorem dL_law_529 : decode cL_law 529 = .ok (.aload_n 0, 1) := by decide +kernel
theorem dL_law_530 : decode cL_law 530 = .ok (.iload_n 3, 1) := by decide +kernel
theorem dL_law_531 : decode cL_law 531 = .ok (.iconst 1, 1) := by decide +kernel
theorem dL_law_532 : decode cL_law 532 = .ok (.iadd, 1) := by decide +kernel
theorem dL_law_533 : decode cL_law 533 = .ok (.iaload, 1) := by decide +kernel
theorem dL_law_534 : decode cL_law 534 = .ok (.aload_n 0, 1) := by decide +kernel
theorem dL_law_535 : decode cL_law 535 = .ok (.iload_n 3, 1) := by decide +kernel
theorem dL_law_536 : decode cL_law 536 = .ok (.iconst 2, 1) := by decide +kernel
theorem dL_law_537 : decode cL_law 537 = .ok (.iadd, 1) := by decide +kernel
theorem dL_law_538 : decode cL_law 538 = .ok (.iaload, 1) := by decide +kernel
theorem dL_law_539 : decode cL_law 539 = .ok (.invokevirtual 91, 3) := by decide +kernel
theorem dL_law_542 : decode cL_law 542 = .ok (.if_icmp .eq 170, 3) := by decide +kernel
theorem dL_law_545 : decode cL_law 545 = .ok (.iconst 0, 1) := by decide +kernel
theorem dL_law_546 : decode cL_law 546 = .ok (.ireturn, 1) := by decide +kernel
theorem dL_law_547 : decode cL_law 547 = .ok (.aload_n 1, 1) := by decide +kernel
theorem dL_law_548 : decode cL_law 548 = .ok (.aload_n 0, 1) := by decide +kernel
theorem dL_law_549 : decode cL_law 549 = .ok (.iload_n 3, 1) := by decide +kernel
theorem dL_law_550 : decode cL_law 550 = .ok (.iconst 1, 1) := by decide +kernel
theorem dL_law_551 : decode cL_law 551 = .ok (.iadd, 1) := by decide +kernel
theorem dL_law_552 : decode cL_law 552 = .ok (.iaload, 1) := by decide +kernel
theorem dL_law_553 : decode cL_law 553 = .ok (.aload_n 0, 1) := by decide +kernel
theorem dL_law_554 : decode cL_law 554 = .ok (.iload_n 3, 1) := by decide +kernel
theorem dL_law_555 : decode cL_law 555 = .ok (.iconst 2, 1) := by decide +kernel
theorem dL_law_556 : decode cL_law 556 = .ok (.iadd, 1) := by decide +kernel
theorem dL_law_557 : decode cL_law 557 = .ok (.iaload, 1) := by decide +kernel
theorem dL_law_558 : decode cL_law 558 = .ok (.invokevirtual 92, 3) := by decide +kernel
theorem dL_law_561 : decode cL_law 561 = .ok (.aload_n 2, 1) := by decide +kernel
theorem dL_law_562 : decode cL_law 562 = .ok (.aload_n 0, 1) := by decide +kernel
theorem dL_law_563 : decode cL_law 563 = .ok (.iload_n 3, 1) := by decide +kernel
theorem dL_law_564 : decode cL_law 564 = .ok (.iconst 1, 1) := by decide +kernel
theorem dL_law_565 : decode cL_law 565 = .ok (.iadd, 1) := by decide +kernel
theorem dL_law_566 : decode cL_law 566 = .ok (.iaload, 1) := by decide +kernel
theorem dL_law_567 : decode cL_law 567 = .ok (.aload_n 0, 1) := by decide +kernel
theorem dL_law_568 : decode cL_law 568 = .ok (.iload_n 3, 1) := by decide +kernel
theorem dL_law_569 : decode cL_law 569 = .ok (.iconst 2, 1) := by decide +kernel
theorem dL_law_570 : decode cL_law 570 = .ok (.iadd, 1) := by decide +kernel
theorem dL_law_571 : decode cL_law 571 = .ok (.iaload, 1) := by decide +kernel
theorem dL_law_572 : decode cL_law 572 = .ok (.invokevirtual 95, 3) := by decide +kernel
theorem dL_law_575 : decode cL_law 575 = .ok (.if_icmp .eq 137, 3) := by decide +kernel
theorem dL_law_578 : decode cL_law 578 = .ok (.iconst 0, 1) := by decide +kernel
theorem dL_law_579 : decode cL_law 579 = .ok (.ireturn, 1) := by decide +kernel
theorem dL_law_580 : decode cL_law 580 = .ok (.aload_n 1, 1) := by decide +kernel
theorem dL_law_581 : decode cL_law 581 = .ok (.aload_n 0, 1) := by decide +kernel
theorem dL_law_582 : decode cL_law 582 = .ok (.iload_n 3, 1) := by decide +kernel
theorem dL_law_583 : decode cL_law 583 = .ok (.iconst 1, 1) := by decide +kernel
theorem dL_law_584 : decode cL_law 584 = .ok (.iadd, 1) := by decide +kernel
theorem dL_law_585 : decode cL_law 585 = .ok (.iaload, 1) := by decide +kernel
theorem dL_law_586 : decode cL_law 586 = .ok (.aload_n 0, 1) := by decide +kernel
theorem dL_law_587 : decode cL_law 587 = .ok (.iload_n 3, 1) := by decide +kernel
theorem dL_law_588 : decode cL_law 588 = .ok (.iconst 2, 1) := by decide +kernel
theorem dL_law_589 : decode cL_law 589 = .ok (.iadd, 1) := by decide +kernel
theorem dL_law_590 : decode cL_law 590 = .ok (.iaload, 1) := by decide +kernel
theorem dL_law_591 : decode cL_law 591 = .ok (.aload_n 0, 1) := by decide +kernel
theorem dL_law_592 : decode cL_law 592 = .ok (.iload_n 3, 1) := by decide +kernel
theorem dL_law_593 : decode cL_law 593 = .ok (.iconst 3, 1) := by decide +kernel
theorem dL_law_594 : decode cL_law 594 = .ok (.iadd, 1) := by decide +kernel
theorem dL_law_595 : decode cL_law 595 = .ok (.iaload, 1) := by decide +kernel
theorem dL_law_596 : decode cL_law 596 = .ok (.invokevirtual 96, 3) := by decide +kernel
theorem dL_law_599 : decode cL_law 599 = .ok (.aload_n 2, 1) := by decide +kernel
theorem dL_law_600 : decode cL_law 600 = .ok (.aload_n 0, 1) := by decide +kernel
theorem dL_law_601 : decode cL_law 601 = .ok (.iload_n 3, 1) := by decide +kernel
theorem dL_law_602 : decode cL_law 602 = .ok (.iconst 1, 1) := by decide +kernel
theorem dL_law_603 : decode cL_law 603 = .ok (.iadd, 1) := by decide +kernel
theorem dL_law_604 : decode cL_law 604 = .ok (.iaload, 1) := by decide +kernel
theorem dL_law_605 : decode cL_law 605 = .ok (.aload_n 0, 1) := by decide +kernel
theorem dL_law_606 : decode cL_law 606 = .ok (.iload_n 3, 1) := by decide +kernel
theorem dL_law_607 : decode cL_law 607 = .ok (.iconst 2, 1) := by decide +kernel
theorem dL_law_608 : decode cL_law 608 = .ok (.iadd, 1) := by decide +kernel
theorem dL_law_609 : decode cL_law 609 = .ok (.iaload, 1) := by decide +kernel
theorem dL_law_610 : decode cL_law 610 = .ok (.aload_n 0, 1) := by decide +kernel
theorem dL_law_611 : decode cL_law 611 = .ok (.iload_n 3, 1) := by decide +kernel
theorem dL_law_612 : decode cL_law 612 = .ok (.iconst 3, 1) := by decide +kernel
theorem dL_law_613 : decode cL_law 613 = .ok (.iadd, 1) := by decide +kernel
theorem dL_law_614 : decode cL_law 614 = .ok (.iaload, 1) := by decide +kernel
theorem dL_law_615 : decode cL_law 615 = .ok (.invokevirtual 100, 3) := by decide +kernel
theorem dL_law_618 : decode cL_law 618 = .ok (.if_icmp .eq 94, 3) := by decide +kernel
theorem dL_law_621 : decode cL_law 621 = .ok (.iconst 0, 1) := by decide +kernel
theorem dL_law_622 : decode cL_law 622 = .ok (.ireturn, 1) := by decide +kernel
theorem dL_law_623 : decode cL_law 623 = .ok (.aload_n 1, 1) := by decide +kernel
theorem dL_law_624 : decode cL_law 624 = .ok (.invokevirtual 101, 3) := by decide +kernel
theorem dL_law_627 : decode cL_law 627 = .ok (.aload_n 2, 1) := by decide +kernel
theorem dL_law_628 : decode cL_law 628 = .ok (.invokevirtual 104, 3) := by decide +kernel
theorem dL_law_631 : decode cL_law 631 = .ok (.if_icmp .eq 81, 3) := by decide +kernel
theorem dL_law_634 : decode cL_law 634 = .ok (.iconst 0, 1) := by decide +kernel
theorem dL_law_635 : decode cL_law 635 = .ok (.ireturn, 1) := by decide +kernel
theorem dL_law_636 : decode cL_law 636 = .ok (.aload_n 1, 1) := by decide +kernel
theorem dL_law_637 : decode cL_law 637 = .ok (.invokevirtual 105, 3) := by decide +kernel
theorem dL_law_640 : decode cL_law 640 = .ok (.aload_n 2, 1) := by decide +kernel
theorem dL_law_641 : decode cL_law 641 = .ok (.invokevirtual 108, 3) := by decide +kernel
theorem dL_law_644 : decode cL_law 644 = .ok (.if_icmp .eq 68, 3) := by decide +kernel
theorem dL_law_647 : decode cL_law 647 = .ok (.iconst 0, 1) := by decide +kernel
theorem dL_law_648 : decode cL_law 648 = .ok (.ireturn, 1) := by decide +kernel
