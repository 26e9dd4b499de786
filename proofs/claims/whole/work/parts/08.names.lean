theorem dX10_go_68 : decode cX10_go 68 = .ok (.ireturn, 1) := by decide +kernel
theorem dX10_go_69 : decode cX10_go 69 = .ok (.aload_n 0, 1) := by decide +kernel
theorem dX10_go_70 : decode cX10_go 70 = .ok (.getfield 78, 3) := by decide +kernel
theorem dX10_go_73 : decode cX10_go 73 = .ok (.iconst 4, 1) := by decide +kernel
theorem dX10_go_74 : decode cX10_go 74 = .ok (.if_icmp .ne 62, 3) := by decide +kernel
theorem dX10_go_77 : decode cX10_go 77 = .ok (.iload_n 1, 1) := by decide +kernel
theorem dX10_go_78 : decode cX10_go 78 = .ok (.invokestatic 88, 3) := by decide +kernel
theorem dX10_go_81 : decode cX10_go 81 = .ok (.iconst (-1), 1) := by decide +kernel
theorem dX10_go_82 : decode cX10_go 82 = .ok (.if_icmp .eq 16, 3) := by decide +kernel
theorem dX10_go_85 : decode cX10_go 85 = .ok (.aload_n 0, 1) := by decide +kernel
theorem dX10_go_86 : decode cX10_go 86 = .ok (.getfield 69, 3) := by decide +kernel
theorem dX10_go_89 : decode cX10_go 89 = .ok (.bipush 9, 2) := by decide +kernel
theorem dX10_go_91 : decode cX10_go 91 = .ok (.if_icmp .ge 7, 3) := by decide +kernel
theorem dX10_go_94 : decode cX10_go 94 = .ok (.iconst 1, 1) := by decide +kernel
theorem dX10_go_95 : decode cX10_go 95 = .ok (.goto 4, 3) := by decide +kernel
theorem dX10_go_98 : decode cX10_go 98 = .ok (.iconst 0, 1) := by decide +kernel
theorem dX10_go_99 : decode cX10_go 99 = .ok (.istore_n 2, 1) := by decide +kernel
theorem dX10_go_100 : decode cX10_go 100 = .ok (.iload_n 2, 1) := by decide +kernel
theorem dX10_go_101 : decode cX10_go 101 = .ok (.ifCond .eq 33, 3) := by decide +kernel
theorem dX10_go_104 : decode cX10_go 104 = .ok (.aload_n 0, 1) := by decide +kernel
theorem dX10_go_105 : decode cX10_go 105 = .ok (.dup, 1) := by decide +kernel
theorem dX10_go_106 : decode cX10_go 106 = .ok (.getfield 75, 3) := by decide +kernel
theorem dX10_go_109 : decode cX10_go 109 = .ok (.iload_n 1, 1) := by decide +kernel
theorem dX10_go_110 : decode cX10_go 110 = .ok (.invokestatic 88, 3) := by decide +kernel
theorem dX10_go_113 : decode cX10_go 113 = .ok (.iconst 2, 1) := by decide +kernel
theorem dX10_go_114 : decode cX10_go 114 = .ok (.aload_n 0, 1) := by decide +kernel
theorem dX10_go_115 : decode cX10_go 115 = .ok (.getfield 69, 3) := by decide +kernel
theorem dX10_go_118 : decode cX10_go 118 = .ok (.imul, 1) := by decide +kernel
theorem dX10_go_119 : decode cX10_go 119 = .ok (.ishl, 1) := by decide +kernel
theorem dX10_go_120 : decode cX10_go 120 = .ok (.ior, 1) := by decide +kernel
theorem dX10_go_121 : decode cX10_go 121 = .ok (.putfield 75, 3) := by decide +kernel
theorem dX10_go_124 : decode cX10_go 124 = .ok (.aload_n 0, 1) := by decide +kernel
theorem dX10_go_125 : decode cX10_go 125 = .ok (.dup, 1) := by decide +kernel
theorem dX10_go_126 : decode cX10_go 126 = .ok (.getfield 69, 3) := by decide +kernel
theorem dX10_go_129 : decode cX10_go 129 = .ok (.iconst 1, 1) := by decide +kernel
theorem dX10_go_130 : decode cX10_go 130 = .ok (.iadd, 1) := by decide +kernel
theorem dX10_go_131 : decode cX10_go 131 = .ok (.putfield 69, 3) := by decide +kernel
theorem dX10_go_134 : decode cX10_go 134 = .ok (.iload_n 2, 1) := by decide +kernel
theorem dX10_go_135 : decode cX10_go 135 = .ok (.ireturn, 1) := by decide +kernel
theorem dX10_go_136 : decode cX10_go 136 = .ok (.aload_n 0, 1) := by decide +kernel
theorem dX10_go_137 : decode cX10_go 137 = .ok (.getfield 72, 3) := by decide +kernel
theorem dX10_go_140 : decode cX10_go 140 = .ok (.aload_n 0, 1) := by decide +kernel
theorem dX10_go_141 : decode cX10_go 141 = .ok (.getfield 69, 3) := by decide +kernel
theorem dX10_go_144 : decode cX10_go 144 = .ok (.if_icmp .ge 26, 3) := by decide +kernel
theorem dX10_go_147 : decode cX10_go 147 = .ok (.iload_n 1, 1) := by decide +kernel
theorem dX10_go_148 : decode cX10_go 148 = .ok (.bipush 48, 2) := by decide +kernel
theorem dX10_go_150 : decode cX10_go 150 = .ok (.isub, 1) := by decide +kernel
theorem dX10_go_151 : decode cX10_go 151 = .ok (.i2l, 1) := by decide +kernel
theorem dX10_go_152 : decode cX10_go 152 = .ok (.lconst 0, 1) := by decide +kernel
theorem dX10_go_153 : decode cX10_go 153 = .ok (.aload_n 0, 1) := by decide +kernel
theorem dX10_go_154 : decode cX10_go 154 = .ok (.getfield 72, 3) := by decide +kernel
theorem dX10_go_157 : decode cX10_go 157 = .ok (.iconst 1, 1) := by decide +kernel
theorem dX10_go_158 : decode cX10_go 158 = .ok (.isub, 1) := by decide +kernel
theorem dX10_go_159 : decode cX10_go 159 = .ok (.i2l, 1) := by decide +kernel
theorem dX10_go_160 : decode cX10_go 160 = .ok (.invokestatic 92, 3) := by decide +kernel
theorem dX10_go_163 : decode cX10_go 163 = .ok (.ifCond .eq 7, 3) := by decide +kernel
theorem dX10_go_166 : decode cX10_go 166 = .ok (.iconst 1, 1) := by decide +kernel
theorem dX10_go_167 : decode cX10_go 167 = .ok (.goto 4, 3) := by decide +kernel
theorem dX10_go_170 : decode cX10_go 170 = .ok (.iconst 0, 1) := by decide +kernel
theorem dX10_go_171 : decode cX10_go 171 = .ok (.istore_n 2, 1) := by decide +kernel
theorem dX10_go_172 : decode cX10_go 172 = .ok (.iload_n 2, 1) := by decide +kernel
theorem dX10_go_173 : decode cX10_go 173 = .ok (.ifCond .eq 26, 3) := by decide +kernel
theorem dX10_go_176 : decode cX10_go 176 = .ok (.aload_n 0, 1) := by decide +kernel
theorem dX10_go_177 : decode cX10_go 177 = .ok (.getfield 13, 3) := by decide +kernel
theorem dX10_go_180 : decode cX10_go 180 = .ok (.aload_n 0, 1) := by decide +kernel
theorem dX10_go_181 : decode cX10_go 181 = .ok (.getfield 72, 3) := by decide +kernel
theorem dX10_go_184 : decode cX10_go 184 = .ok (.iload_n 1, 1) := by decide +kernel
theorem dX10_go_185 : decode cX10_go 185 = .ok (.bipush 48, 2) := by decide +kernel
theorem dX10_go_187 : decode cX10_go 187 = .ok (.isub, 1) := by decide +kernel
theorem dX10_go_188 : decode cX10_go 188 = .ok (.iastore, 1) := by decide +kernel
theorem dX10_go_189 : decode cX10_go 189 = .ok (.aload_n 0, 1) := by decide +kernel
theorem dX10_go_190 : decode cX10_go 190 = .ok (.dup, 1) := by decide +kernel
theorem dX10_go_191 : decode cX10_go 191 = .ok (.getfield 72, 3) := by decide +kernel
theorem dX10_go_194 : decode cX10_go 194 = .ok (.iconst 1, 1) := by decide +kernel
theorem dX10_go_195 : decode cX10_go 195 = .ok (.iadd, 1) := by decide +kernel
theorem dX10_go_196 : decode cX10_go 196 = .ok (.putfield 72, 3) := by decide +kernel
theorem dX10_go_199 : decode cX10_go 199 = .ok (.iload_n 2, 1) := by decide +kernel
theorem dX10_go_200 : decode cX10_go 200 = .ok (.ireturn, 1) := by decide +kernel
set_option maxRecDepth 20000 in
theorem ggX10_faultOf_X10_go : GoodIn wsX10_faultOf wsX10_go := goodIn_r _ [8, 1, 9, 10, 11, 12, 13, 14, 15, 16, 7, 17, 18, 19, 20, 21, 22, 23, 24, 25, 26, 27, 28, 29, 30, 31, 32, 33, 34, 35, 36, 37, 38, 39, 40, 41, 42, 43, 44, 45, 46, 47, 48, 49, 50, 51, 52, 53, 54, 55, 56, 57, 58, 59, 60, 61, 62, 63] (by decide +kernel) (by decide +kernel)
set_option maxRecDepth 20000 in
theorem gX10_faultOf_X10_go : GoodIn wsX10_faultOf (wsV RX10 96 RX10 yX10_go wsX10_go) := goodIn_app (goodIn_of _ (by decide +kernel)) ggX10_faultOf_X10_go
theorem dX10_faultOf_0 : decode cX10_faultOf 0 = .ok (.aload_n 0, 1) := by decide +kernel
theorem dX10_faultOf_1 : decode cX10_faultOf 1 = .ok (.iconst 0, 1) := by decide +kernel
theorem dX10_faultOf_2 : decode cX10_faultOf 2 = .ok (.putfield 78, 3) := by decide +kernel
theorem dX10_faultOf_5 : decode cX10_faultOf 5 = .ok (.iconst 0, 1) := by decide +kernel
theorem dX10_faultOf_6 : decode cX10_faultOf 6 = .ok (.istore_n 1, 1) := by decide +kernel
theorem dX10_faultOf_7 : decode cX10_faultOf 7 = .ok (.iload_n 1, 1) := by decide +kernel
theorem dX10_faultOf_8 : decode cX10_faultOf 8 = .ok (.aload_n 0, 1) := by decide +kernel
theorem dX10_faultOf_9 : decode cX10_faultOf 9 = .ok (.getfield 57, 3) := by decide +kernel
theorem dX10_faultOf_12 : decode cX10_faultOf 12 = .ok (.if_icmp .ge 22, 3) := by decide +kernel
theorem dX10_faultOf_15 : decode cX10_faultOf 15 = .ok (.aload_n 0, 1) := by decide +kernel
theorem dX10_faultOf_16 : decode cX10_faultOf 16 = .ok (.aload_n 0, 1) := by decide +kernel
theorem dX10_faultOf_17 : decode cX10_faultOf 17 = .ok (.getfield 7, 3) := by decide +kernel
theorem dX10_faultOf_20 : decode cX10_faultOf 20 = .ok (.iload_n 1, 1) := by decide +kernel
theorem dX10_faultOf_21 : decode cX10_faultOf 21 = .ok (.iaload, 1) := by decide +kernel
theorem dX10_faultOf_22 : decode cX10_faultOf 22 = .ok (.invokevirtual 96, 3) := by decide +kernel
theorem dX10_faultOf_25 : decode cX10_faultOf 25 = .ok (.ifCond .eq 9, 3) := by decide +kernel
theorem dX10_faultOf_28 : decode cX10_faultOf 28 = .ok (.iinc 1 1, 3) := by decide +kernel
theorem dX10_faultOf_31 : decode cX10_faultOf 31 = .ok (.goto (-24), 3) := by decide +kernel
theorem dX10_faultOf_34 : decode cX10_faultOf 34 = .ok (.iload_n 1, 1) := by decide +kernel
theorem dX10_faultOf_35 : decode cX10_faultOf 35 = .ok (.ireturn, 1) := by decide +kernel
set_option maxRecDepth 20000 in
theorem ggX10_fault_X10_faultOf : GoodIn wsX10_fault wsX10_faultOf := goodIn_r _ [5, 6, 7, 8, 9, 10, 11, 4, 12, 13, 14, 15, 16, 17, 18, 19, 20, 21, 22, 23, 24, 25, 26, 27, 28, 29, 30, 31, 32, 33, 34, 35, 36, 37, 38, 39, 40, 41, 42, 43, 44, 45, 46, 47, 48, 49, 50, 51, 52, 53, 54, 55, 56, 57, 58, 59, 60, 61, 62, 63, 64, 65, 66, 67] (by decide +kernel) (by decide +kernel)
set_option maxRecDepth 20000 in
theorem gX10_fault_X10_faultOf : GoodIn wsX10_fault (wsV RX10 99 RX10 yX10_faultOf wsX10_faultOf) := goodIn_app (goodIn_of _ (by decide +kernel)) ggX10_fault_X10_faultOf
theorem dX10_fault_0 : decode cX10_fault 0 = .ok (.aload_n 0, 1) := by decide +kernel
theorem dX10_fault_1 : decode cX10_fault 1 = .ok (.invokevirtual 99, 3) := by decide +kernel
theorem dX10_fault_4 : decode cX10_fault 4 = .ok (.ireturn, 1) := by decide +kernel
set_option maxRecDepth 20000 in
theorem ggX10_stones_X10_faultOf : GoodIn wsX10_stones wsX10_faultOf := goodIn_r _ [23, 4, 1, 24, 25, 26, 27, 22, 28, 3, 2, 14, 5, 13, 29, 30, 31, 32, 8, 10, 33, 34, 35, 36, 37, 38, 39, 40, 41, 42, 43, 44, 45, 46, 47, 48, 49, 50, 51, 52, 53, 54, 55, 56, 57, 58, 59, 60, 61, 62, 63, 64, 65, 66, 67, 68, 69, 70, 71, 72, 73, 74, 75, 76] (by decide +kernel) (by decide +kernel)
set_option maxRecDepth 20000 in
theorem gX10_stones_X10_faultOf : GoodIn wsX10_stones (wsV RX10 99 RX10 yX10_faultOf wsX10_faultOf) := goodIn_app (goodIn_of _ (by decide +kernel)) ggX10_stones_X10_faultOf
theorem dX10_stones_0 : decode cX10_stones 0 = .ok (.aload_n 0, 1) := by decide +kernel
theorem dX10_stones_1 : decode cX10_stones 1 = .ok (.invokevirtual 99, 3) := by decide +kernel
theorem dX10_stones_4 : decode cX10_stones 4 = .ok (.aload_n 0, 1) := by decide +kernel
theorem dX10_stones_5 : decode cX10_stones 5 = .ok (.getfield 57, 3) := by decide +kernel
theorem dX10_stones_8 : decode cX10_stones 8 = .ok (.if_icmp .ne 54, 3) := by decide +kernel
theorem dX10_stones_11 : decode cX10_stones 11 = .ok (.aload_n 0, 1) := by decide +kernel
theorem dX10_stones_12 : decode cX10_stones 12 = .ok (.getfield 69, 3) := by decide +kernel
theorem dX10_stones_15 : decode cX10_stones 15 = .ok (.iconst 1, 1) := by decide +kernel
theorem dX10_stones_16 : decode cX10_stones 16 = .ok (.if_icmp .le 46, 3) := by decide +kernel
theorem dX10_stones_19 : decode cX10_stones 19 = .ok (.aload_n 0, 1) := by decide +kernel
theorem dX10_stones_20 : decode cX10_stones 20 = .ok (.getfield 60, 3) := by decide +kernel
theorem dX10_stones_23 : decode cX10_stones 23 = .ok (.bipush 116, 2) := by decide +kernel
theorem dX10_stones_25 : decode cX10_stones 25 = .ok (.if_icmp .ne 25, 3) := by decide +kernel
theorem dX10_stones_28 : decode cX10_stones 28 = .ok (.aload_n 0, 1) := by decide +kernel
theorem dX10_stones_29 : decode cX10_stones 29 = .ok (.getfield 78, 3) := by decide +kernel
theorem dX10_stones_32 : decode cX10_stones 32 = .ok (.iconst 5, 1) := by decide +kernel
theorem dX10_stones_33 : decode cX10_stones 33 = .ok (.if_icmp .ne 29, 3) := by decide +kernel
theorem dX10_stones_36 : decode cX10_stones 36 = .ok (.aload_n 0, 1) := by decide +kernel
theorem dX10_stones_37 : decode cX10_stones 37 = .ok (.getfield 72, 3) := by decide +kernel
theorem dX10_stones_40 : decode cX10_stones 40 = .ok (.aload_n 0, 1) := by decide +kernel
theorem dX10_stones_41 : decode cX10_stones 41 = .ok (.getfield 69, 3) := by decide +kernel
theorem dX10_stones_44 : decode cX10_stones 44 = .ok (.if_icmp .ne 18, 3) := by decide +kernel
theorem dX10_stones_47 : decode cX10_stones 47 = .ok (.goto 11, 3) := by decide +kernel
theorem dX10_stones_50 : decode cX10_stones 50 = .ok (.aload_n 0, 1) := by decide +kernel
theorem dX10_stones_51 : decode cX10_stones 51 = .ok (.getfield 78, 3) := by decide +kernel
theorem dX10_stones_54 : decode cX10_stones 54 = .ok (.iconst 4, 1) := by decide +kernel
theorem dX10_stones_55 : decode cX10_stones 55 = .ok (.if_icmp .ne 7, 3) := by decide +kernel
theorem dX10_stones_58 : decode cX10_stones 58 = .ok (.iconst 1, 1) := by decide +kernel
theorem dX10_stones_59 : decode cX10_stones 59 = .ok (.goto 4, 3) := by decide +kernel
theorem dX10_stones_62 : decode cX10_stones 62 = .ok (.iconst 0, 1) := by decide +kernel
theorem dX10_stones_63 : decode cX10_stones 63 = .ok (.istore_n 1, 1) := by decide +kernel
theorem dX10_stones_64 : decode cX10_stones 64 = .ok (.aload_n 0, 1) := by decide +kernel
theorem dX10_stones_65 : decode cX10_stones 65 = .ok (.getfield 57, 3) := by decide +kernel
theorem dX10_stones_68 : decode cX10_stones 68 = .ok (.ifCond .eq 7, 3) := by decide +kernel
theorem dX10_stones_71 : decode cX10_stones 71 = .ok (.iload_n 1, 1) := by decide +kernel
theorem dX10_stones_72 : decode cX10_stones 72 = .ok (.ifCond .ne 6, 3) := by decide +kernel
theorem dX10_stones_75 : decode cX10_stones 75 = .ok (.bipush (-103), 2) := by decide +kernel
theorem dX10_stones_77 : decode cX10_stones 77 = .ok (.ireturn, 1) := by decide +kernel
theorem dX10_stones_78 : decode cX10_stones 78 = .ok (.aload_n 0, 1) := by decide +kernel
theorem dX10_stones_79 : decode cX10_stones 79 = .ok (.aload_n 0, 1) := by decide +kernel
theorem dX10_stones_80 : decode cX10_stones 80 = .ok (.getfield 60, 3) := by decide +kernel
theorem dX10_stones_83 : decode cX10_stones 83 = .ok (.putfield 103, 3) := by decide +kernel
theorem dX10_stones_86 : decode cX10_stones 86 = .ok (.aload_n 0, 1) := by decide +kernel
theorem dX10_stones_87 : decode cX10_stones 87 = .ok (.aload_n 0, 1) := by decide +kernel
theorem dX10_stones_88 : decode cX10_stones 88 = .ok (.getfield 69, 3) := by decide +kernel
theorem dX10_stones_91 : decode cX10_stones 91 = .ok (.putfield 106, 3) := by decide +kernel
theorem dX10_stones_94 : decode cX10_stones 94 = .ok (.aload_n 0, 1) := by decide +kernel
theorem dX10_stones_95 : decode cX10_stones 95 = .ok (.aload_n 0, 1) := by decide +kernel
theorem dX10_stones_96 : decode cX10_stones 96 = .ok (.getfield 63, 3) := by decide +kernel
theorem dX10_stones_99 : decode cX10_stones 99 = .ok (.iconst 1, 1) := by decide +kernel
theorem dX10_stones_100 : decode cX10_stones 100 = .ok (.if_icmp .ne 7, 3) := by decide +kernel
theorem dX10_stones_103 : decode cX10_stones 103 = .ok (.iconst 1, 1) := by decide +kernel
theorem dX10_stones_104 : decode cX10_stones 104 = .ok (.goto 4, 3) := by decide +kernel
theorem dX10_stones_107 : decode cX10_stones 107 = .ok (.iconst 0, 1) := by decide +kernel
theorem dX10_stones_108 : decode cX10_stones 108 = .ok (.putfield 109, 3) := by decide +kernel
theorem dX10_stones_111 : decode cX10_stones 111 = .ok (.aload_n 0, 1) := by decide +kernel
theorem dX10_stones_112 : decode cX10_stones 112 = .ok (.aload_n 0, 1) := by decide +kernel
theorem dX10_stones_113 : decode cX10_stones 113 = .ok (.getfield 66, 3) := by decide +kernel
theorem dX10_stones_116 : decode cX10_stones 116 = .ok (.iconst 1, 1) := by decide +kernel
theorem dX10_stones_117 : decode cX10_stones 117 = .ok (.if_icmp .ne 7, 3) := by decide +kernel
theorem dX10_stones_120 : decode cX10_stones 120 = .ok (.iconst 1, 1) := by decide +kernel
theorem dX10_stones_121 : decode cX10_stones 121 = .ok (.goto 4, 3) := by decide +kernel
theorem dX10_stones_124 : decode cX10_stones 124 = .ok (.iconst 0, 1) := by decide +kernel
theorem dX10_stones_125 : decode cX10_stones 125 = .ok (.putfield 113, 3) := by decide +kernel
theorem dX10_stones_128 : decode cX10_stones 128 = .ok (.iconst 0, 1) := by decide +kernel
theorem dX10_stones_129 : decode cX10_stones 129 = .ok (.istore_n 2, 1) := by decide +kernel
theorem dX10_stones_130 : decode cX10_stones 130 = .ok (.iload_n 2, 1) := by decide +kernel
theorem dX10_stones_131 : decode cX10_stones 131 = .ok (.bipush 9, 2) := by decide +kernel
theorem dX10_stones_133 : decode cX10_stones 133 = .ok (.if_icmp .ge 37, 3) := by decide +kernel
theorem dX10_stones_136 : decode cX10_stones 136 = .ok (.aload_n 0, 1) := by decide +kernel
theorem dX10_stones_137 : decode cX10_stones 137 = .ok (.getfield 16, 3) := by decide +kernel
theorem dX10_stones_140 : decode cX10_stones 140 = .ok (.iload_n 2, 1) := by decide +kernel
theorem dX10_stones_141 : decode cX10_stones 141 = .ok (.iload_n 2, 1) := by decide +kernel
theorem dX10_stones_142 : decode cX10_stones 142 = .ok (.ifCond .le 20, 3) := by decide +kernel
theorem dX10_stones_145 : decode cX10_stones 145 = .ok (.iload_n 2, 1) := by decide +kernel
theorem dX10_stones_146 : decode cX10_stones 146 = .ok (.aload_n 0, 1) := by decide +kernel
theorem dX10_stones_147 : decode cX10_stones 147 = .ok (.getfield 106, 3) := by decide +kernel
theorem dX10_stones_150 : decode cX10_stones 150 = .ok (.if_icmp .ge 12, 3) := by decide +kernel
theorem dX10_stones_153 : decode cX10_stones 153 = .ok (.aload_n 0, 1) := by decide +kernel
theorem dX10_stones_154 : decode cX10_stones 154 = .ok (.getfield 13, 3) := by decide +kernel
theorem dX10_stones_157 : decode cX10_stones 157 = .ok (.iload_n 2, 1) := by decide +kernel
theorem dX10_stones_158 : decode cX10_stones 158 = .ok (.iaload, 1) := by decide +kernel
theorem dX10_stones_159 : decode cX10_stones 159 = .ok (.goto 4, 3) := by decide +kernel
theorem dX10_stones_162 : decode cX10_stones 162 = .ok (.iconst (-1), 1) := by decide +kernel
theorem dX10_stones_163 : decode cX10_stones 163 = .ok (.iastore, 1) := by decide +kernel
theorem dX10_stones_164 : decode cX10_stones 164 = .ok (.iinc 2 1, 3) := by decide +kernel
theorem dX10_stones_167 : decode cX10_stones 167 = .ok (.goto (-37), 3) := by decide +kernel
theorem dX10_stones_170 : decode cX10_stones 170 = .ok (.aload_n 0, 1) := by decide +kernel
theorem dX10_stones_171 : decode cX10_stones 171 = .ok (.aload_n 0, 1) := by decide +kernel
theorem dX10_stones_172 : decode cX10_stones 172 = .ok (.getfield 75, 3) := by decide +kernel
theorem dX10_stones_175 : decode cX10_stones 175 = .ok (.putfield 116, 3) := by decide +kernel
theorem dX10_stones_178 : decode cX10_stones 178 = .ok (.aload_n 0, 1) := by decide +kernel
theorem dX10_stones_179 : decode cX10_stones 179 = .ok (.iconst (-1), 1) := by decide +kernel
theorem dX10_stones_180 : decode cX10_stones 180 = .ok (.putfield 52, 3) := by decide +kernel
theorem dX10_stones_183 : decode cX10_stones 183 = .ok (.aload_n 0, 1) := by decide +kernel
theorem dX10_stones_184 : decode cX10_stones 184 = .ok (.iconst 0, 1) := by decide +kernel
theorem dX10_stones_185 : decode cX10_stones 185 = .ok (.putfield 119, 3) := by decide +kernel
theorem dX10_stones_188 : decode cX10_stones 188 = .ok (.aload_n 0, 1) := by decide +kernel
theorem dX10_stones_189 : decode cX10_stones 189 = .ok (.dup, 1) := by decide +kernel
theorem dX10_stones_190 : decode cX10_stones 190 = .ok (.getfield 122, 3) := by decide +kernel
theorem dX10_stones_193 : decode cX10_stones 193 = .ok (.iconst 1, 1) := by decide +kernel
theorem dX10_stones_194 : decode cX10_stones 194 = .ok (.iadd, 1) := by decide +kernel
theorem dX10_stones_195 : decode cX10_stones 195 = .ok (.putfield 122, 3) := by decide +kernel
theorem dX10_stones_198 : decode cX10_stones 198 = .ok (.aload_n 0, 1) := by decide +kernel
theorem dX10_stones_199 : decode cX10_stones 199 = .ok (.iconst 0, 1) := by decide +kernel
theorem dX10_stones_200 : decode cX10_stones 200 = .ok (.putfield 57, 3) := by decide +kernel
theorem dX10_stones_203 : decode cX10_stones 203 = .ok (.aload_n 0, 1) := by decide +kernel
theorem dX10_stones_204 : decode cX10_stones 204 = .ok (.getfield 106, 3) := by decide +kernel
theorem dX10_stones_207 : decode cX10_stones 207 = .ok (.ireturn, 1) := by decide +kernel
theorem dX10_lacks_0 : decode cX10_lacks 0 = .ok (.aload_n 0, 1) := by decide +kernel
theorem dX10_lacks_1 : decode cX10_lacks 1 = .ok (.getfield 106, 3) := by decide +kernel
theorem dX10_lacks_4 : decode cX10_lacks 4 = .ok (.ifCond .ne 7, 3) := by decide +kernel
theorem dX10_lacks_7 : decode cX10_lacks 7 = .ok (.iconst 1, 1) := by decide +kernel
theorem dX10_lacks_8 : decode cX10_lacks 8 = .ok (.goto 4, 3) := by decide +kernel
theorem dX10_lacks_11 : decode cX10_lacks 11 = .ok (.iconst 0, 1) := by decide +kernel
theorem dX10_lacks_12 : decode cX10_lacks 12 = .ok (.ireturn, 1) := by decide +kernel
theorem dX10_howMany_0 : decode cX10_howMany 0 = .ok (.iconst 0, 1) := by decide +kernel
theorem dX10_howMany_1 : decode cX10_howMany 1 = .ok (.istore_n 3, 1) := by decide +kernel
theorem dX10_howMany_2 : decode cX10_howMany 2 = .ok (.iconst 0, 1) := by decide +kernel
theorem dX10_howMany_3 : decode cX10_howMany 3 = .ok (.istore 4, 2) := by decide +kernel
theorem dX10_howMany_5 : decode cX10_howMany 5 = .ok (.iload 4, 2) := by decide +kernel
theorem dX10_howMany_7 : decode cX10_howMany 7 = .ok (.aload_n 0, 1) := by decide +kernel
theorem dX10_howMany_8 : decode cX10_howMany 8 = .ok (.getfield 106, 3) := by decide +kernel
theorem dX10_howMany_11 : decode cX10_howMany 11 = .ok (.if_icmp .ge 29, 3) := by decide +kernel
theorem dX10_howMany_14 : decode cX10_howMany 14 = .ok (.iload_n 3, 1) := by decide +kernel
theorem dX10_howMany_15 : decode cX10_howMany 15 = .ok (.iload_n 1, 1) := by decide +kernel
theorem dX10_howMany_16 : decode cX10_howMany 16 = .ok (.iconst 2, 1) := by decide +kernel
theorem dX10_howMany_17 : decode cX10_howMany 17 = .ok (.iload 4, 2) := by decide +kernel
theorem dX10_howMany_19 : decode cX10_howMany 19 = .ok (.imul, 1) := by decide +kernel
theorem dX10_howMany_20 : decode cX10_howMany 20 = .ok (.ishr, 1) := by decide +kernel
theorem dX10_howMany_21 : decode cX10_howMany 21 = .ok (.iconst 3, 1) := by decide +kernel
theorem dX10_howMany_22 : decode cX10_howMany 22 = .ok (.iand, 1) := by decide +kernel
theorem dX10_howMany_23 : decode cX10_howMany 23 = .ok (.iload_n 2, 1) := by decide +kernel
theorem dX10_howMany_24 : decode cX10_howMany 24 = .ok (.if_icmp .ne 7, 3) := by decide +kernel
theorem dX10_howMany_27 : decode cX10_howMany 27 = .ok (.iconst 1, 1) := by decide +kernel
theorem dX10_howMany_28 : decode cX10_howMany 28 = .ok (.goto 4, 3) := by decide +kernel
theorem dX10_howMany_31 : decode cX10_howMany 31 = .ok (.iconst 0, 1) := by decide +kernel
theorem dX10_howMany_32 : decode cX10_howMany 32 = .ok (.iadd, 1) := by decide +kernel
theorem dX10_howMany_33 : decode cX10_howMany 33 = .ok (.istore_n 3, 1) := by decide +kernel
theorem dX10_howMany_34 : decode cX10_howMany 34 = .ok (.iinc 4 1, 3) := by decide +kernel
theorem dX10_howMany_37 : decode cX10_howMany 37 = .ok (.goto (-32), 3) := by decide +kernel
theorem dX10_howMany_40 : decode cX10_howMany 40 = .ok (.iload_n 3, 1) := by decide +kernel
theorem dX10_howMany_41 : decode cX10_howMany 41 = .ok (.ireturn, 1) := by decide +kernel
set_option maxRecDepth 20000 in
theorem ggX10_frogs_X10_howMany : GoodIn wsX10_frogs wsX10_howMany := goodIn_r _ [7, 1, 8, 9, 10, 11, 12, 13, 14, 15, 16, 17, 18, 19, 20, 21, 22, 23, 24, 25, 26, 27, 28, 29, 30, 31, 32, 33, 34, 35, 36, 37, 38, 39, 40, 41] (by decide +kernel) (by decide +kernel)
set_option maxRecDepth 20000 in
theorem gX10_frogs_X10_howMany : GoodIn wsX10_frogs (wsV RX10 125 RX10 yX10_howMany wsX10_howMany) := goodIn_app (goodIn_of _ (by decide +kernel)) ggX10_frogs_X10_howMany
theorem dX10_frogs_0 : decode cX10_frogs 0 = .ok (.aload_n 0, 1) := by decide +kernel
theorem dX10_frogs_1 : decode cX10_frogs 1 = .ok (.getfield 106, 3) := by decide +kernel
theorem dX10_frogs_4 : decode cX10_frogs 4 = .ok (.aload_n 0, 1) := by decide +kernel
theorem dX10_frogs_5 : decode cX10_frogs 5 = .ok (.aload_n 0, 1) := by decide +kernel
theorem dX10_frogs_6 : decode cX10_frogs 6 = .ok (.getfield 116, 3) := by decide +kernel
theorem dX10_frogs_9 : decode cX10_frogs 9 = .ok (.iconst 0, 1) := by decide +kernel
theorem dX10_frogs_10 : decode cX10_frogs 10 = .ok (.invokevirtual 125, 3) := by decide +kernel
theorem dX10_frogs_13 : decode cX10_frogs 13 = .ok (.isub, 1) := by decide +kernel
theorem dX10_frogs_14 : decode cX10_frogs 14 = .ok (.ireturn, 1) := by decide +kernel
set_option maxRecDepth 20000 in
theorem ggX10_aim_X10_lacks : GoodIn wsX10_aim wsX10_lacks := goodIn_r _ [10, 2, 22, 23, 24, 25, 26, 27, 28, 29, 30, 31, 32, 33, 34, 35, 36, 37, 38, 39, 40, 41, 42, 43, 44, 45, 46, 47, 48, 49, 50, 51, 52, 53, 54, 55] (by decide +kernel) (by decide +kernel)
set_option maxRecDepth 20000 in
theorem gX10_aim_X10_lacks : GoodIn wsX10_aim (wsV RX10 129 RX10 yX10_lacks wsX10_lacks) := goodIn_app (goodIn_of _ (by decide +kernel)) ggX10_aim_X10_lacks
set_option maxRecDepth 20000 in
theorem ggX10_aim_X10_kindOf : GoodIn wsX10_aim wsX10_kindOf := goodIn_r _ [13] (by decide +kernel) (by decide +kernel)
set_option maxRecDepth 20000 in
theorem gX10_aim_X10_kindOf : GoodIn wsX10_aim (va_wsS RX10 88 yX10_kindOf wsX10_kindOf) := goodIn_app (goodIn_of _ (by decide +kernel)) ggX10_aim_X10_kindOf
set_option maxRecDepth 20000 in
theorem ggX10_aim_X10_howMany : GoodIn wsX10_aim wsX10_howMany := goodIn_r _ [17, 2, 22, 23, 24, 25, 26, 27, 28, 29, 30, 31, 32, 33, 34, 35, 36, 37, 38, 39, 40, 41, 42, 43, 44, 45, 46, 47, 48, 49, 50, 51, 52, 53, 54, 55] (by decide +kernel) (by decide +kernel)
set_option maxRecDepth 20000 in
theorem gX10_aim_X10_howMany : GoodIn wsX10_aim (wsV RX10 125 RX10 yX10_howMany wsX10_howMany) := goodIn_app (goodIn_of _ (by decide +kernel)) ggX10_aim_X10_howMany
set_option maxRecDepth 20000 in
theorem ggX10_aim_X10_frogs : GoodIn wsX10_aim wsX10_frogs := goodIn_r _ [21, 2, 4, 14, 15, 16, 9, 17, 22, 23, 24, 25, 26, 27, 28, 29, 30, 31, 32, 33, 34, 35, 36, 37, 38, 39, 40, 41, 42, 43, 44, 45, 46, 47, 48, 49, 50, 51, 52, 53, 54, 55] (by decide +kernel) (by decide +kernel)
set_option maxRecDepth 20000 in
theorem gX10_aim_X10_frogs : GoodIn wsX10_aim (wsV RX10 133 RX10 yX10_frogs wsX10_frogs) := goodIn_app (goodIn_of _ (by decide +kernel)) ggX10_aim_X10_frogs
theorem dX10_aim_0 : decode cX10_aim 0 = .ok (.aload_n 0, 1) := by decide +kernel
theorem dX10_aim_1 : decode cX10_aim 1 = .ok (.invokevirtual 129, 3) := by decide +kernel
theorem dX10_aim_4 : decode cX10_aim 4 = .ok (.ifCond .ne 14, 3) := by decide +kernel
theorem dX10_aim_7 : decode cX10_aim 7 = .ok (.aload_n 0, 1) := by decide +kernel
theorem dX10_aim_8 : decode cX10_aim 8 = .ok (.getfield 57, 3) := by decide +kernel
theorem dX10_aim_11 : decode cX10_aim 11 = .ok (.aload_n 0, 1) := by decide +kernel
theorem dX10_aim_12 : decode cX10_aim 12 = .ok (.getfield 106, 3) := by decide +kernel
theorem dX10_aim_15 : decode cX10_aim 15 = .ok (.if_icmp .eq 6, 3) := by decide +kernel
theorem dX10_aim_18 : decode cX10_aim 18 = .ok (.bipush (-103), 2) := by decide +kernel
theorem dX10_aim_20 : decode cX10_aim 20 = .ok (.ireturn, 1) := by decide +kernel
theorem dX10_aim_21 : decode cX10_aim 21 = .ok (.iconst 0, 1) := by decide +kernel
theorem dX10_aim_22 : decode cX10_aim 22 = .ok (.istore_n 1, 1) := by decide +kernel
theorem dX10_aim_23 : decode cX10_aim 23 = .ok (.iconst 0, 1) := by decide +kernel
theorem dX10_aim_24 : decode cX10_aim 24 = .ok (.istore_n 2, 1) := by decide +kernel
theorem dX10_aim_25 : decode cX10_aim 25 = .ok (.iload_n 2, 1) := by decide +kernel
theorem dX10_aim_26 : decode cX10_aim 26 = .ok (.aload_n 0, 1) := by decide +kernel
theorem dX10_aim_27 : decode cX10_aim 27 = .ok (.getfield 106, 3) := by decide +kernel
theorem dX10_aim_30 : decode cX10_aim 30 = .ok (.if_icmp .ge 35, 3) := by decide +kernel
theorem dX10_aim_33 : decode cX10_aim 33 = .ok (.aload_n 0, 1) := by decide +kernel
theorem dX10_aim_34 : decode cX10_aim 34 = .ok (.getfield 7, 3) := by decide +kernel
theorem dX10_aim_37 : decode cX10_aim 37 = .ok (.iload_n 2, 1) := by decide +kernel
theorem dX10_aim_38 : decode cX10_aim 38 = .ok (.iaload, 1) := by decide +kernel
theorem dX10_aim_39 : decode cX10_aim 39 = .ok (.invokestatic 88, 3) := by decide +kernel
theorem dX10_aim_42 : decode cX10_aim 42 = .ok (.istore_n 3, 1) := by decide +kernel
theorem dX10_aim_43 : decode cX10_aim 43 = .ok (.iload_n 3, 1) := by decide +kernel
theorem dX10_aim_44 : decode cX10_aim 44 = .ok (.iconst (-1), 1) := by decide +kernel
theorem dX10_aim_45 : decode cX10_aim 45 = .ok (.if_icmp .ne 6, 3) := by decide +kernel
theorem dX10_aim_48 : decode cX10_aim 48 = .ok (.bipush (-103), 2) := by decide +kernel
theorem dX10_aim_50 : decode cX10_aim 50 = .ok (.ireturn, 1) := by decide +kernel
theorem dX10_aim_51 : decode cX10_aim 51 = .ok (.iload_n 1, 1) := by decide +kernel
theorem dX10_aim_52 : decode cX10_aim 52 = .ok (.iload_n 3, 1) := by decide +kernel
theorem dX10_aim_53 : decode cX10_aim 53 = .ok (.iconst 2, 1) := by decide +kernel
theorem dX10_aim_54 : decode cX10_aim 54 = .ok (.iload_n 2, 1) := by decide +kernel
theorem dX10_aim_55 : decode cX10_aim 55 = .ok (.imul, 1) := by decide +kernel
theorem dX10_aim_56 : decode cX10_aim 56 = .ok (.ishl, 1) := by decide +kernel
theorem dX10_aim_57 : decode cX10_aim 57 = .ok (.ior, 1) := by decide +kernel
theorem dX10_aim_58 : decode cX10_aim 58 = .ok (.istore_n 1, 1) := by decide +kernel
theorem dX10_aim_59 : decode cX10_aim 59 = .ok (.iinc 2 1, 3) := by decide +kernel
theorem dX10_aim_62 : decode cX10_aim 62 = .ok (.goto (-37), 3) := by decide +kernel
theorem dX10_aim_65 : decode cX10_aim 65 = .ok (.iconst 0, 1) := by decide +kernel
theorem dX10_aim_66 : decode cX10_aim 66 = .ok (.istore_n 2, 1) := by decide +kernel
theorem dX10_aim_67 : decode cX10_aim 67 = .ok (.iload_n 2, 1) := by decide +kernel
theorem dX10_aim_68 : decode cX10_aim 68 = .ok (.iconst 4, 1) := by decide +kernel
theorem dX10_aim_69 : decode cX10_aim 69 = .ok (.if_icmp .ge 30, 3) := by decide +kernel
theorem dX10_aim_72 : decode cX10_aim 72 = .ok (.aload_n 0, 1) := by decide +kernel
theorem dX10_aim_73 : decode cX10_aim 73 = .ok (.iload_n 1, 1) := by decide +kernel
theorem dX10_aim_74 : decode cX10_aim 74 = .ok (.iload_n 2, 1) := by decide +kernel
theorem dX10_aim_75 : decode cX10_aim 75 = .ok (.invokevirtual 125, 3) := by decide +kernel
theorem dX10_aim_78 : decode cX10_aim 78 = .ok (.aload_n 0, 1) := by decide +kernel
theorem dX10_aim_79 : decode cX10_aim 79 = .ok (.aload_n 0, 1) := by decide +kernel
theorem dX10_aim_80 : decode cX10_aim 80 = .ok (.getfield 116, 3) := by decide +kernel
theorem dX10_aim_83 : decode cX10_aim 83 = .ok (.iload_n 2, 1) := by decide +kernel
theorem dX10_aim_84 : decode cX10_aim 84 = .ok (.invokevirtual 125, 3) := by decide +kernel
theorem dX10_aim_87 : decode cX10_aim 87 = .ok (.if_icmp .eq 6, 3) := by decide +kernel
theorem dX10_aim_90 : decode cX10_aim 90 = .ok (.bipush (-103), 2) := by decide +kernel
theorem dX10_aim_92 : decode cX10_aim 92 = .ok (.ireturn, 1) := by decide +kernel
theorem dX10_aim_93 : decode cX10_aim 93 = .ok (.iinc 2 1, 3) := by decide +kernel
theorem dX10_aim_96 : decode cX10_aim 96 = .ok (.goto (-29), 3) := by decide +kernel
theorem dX10_aim_99 : decode cX10_aim 99 = .ok (.aload_n 0, 1) := by decide +kernel
theorem dX10_aim_100 : decode cX10_aim 100 = .ok (.iload_n 1, 1) := by decide +kernel
theorem dX10_aim_101 : decode cX10_aim 101 = .ok (.putfield 52, 3) := by decide +kernel
theorem dX10_aim_104 : decode cX10_aim 104 = .ok (.aload_n 0, 1) := by decide +kernel
theorem dX10_aim_105 : decode cX10_aim 105 = .ok (.iconst 0, 1) := by decide +kernel
theorem dX10_aim_106 : decode cX10_aim 106 = .ok (.putfield 57, 3) := by decide +kernel
theorem dX10_aim_109 : decode cX10_aim 109 = .ok (.aload_n 0, 1) := by decide +kernel
theorem dX10_aim_110 : decode cX10_aim 110 = .ok (.invokevirtual 133, 3) := by decide +kernel
theorem dX10_aim_113 : decode cX10_aim 113 = .ok (.ireturn, 1) := by decide +kernel
set_option maxRecDepth 20000 in
theorem ggX10_isStone_X10_in : GoodIn wsX10_isStone wsX10_in := goodIn_r _ [5] (by decide +kernel) (by decide +kernel)
set_option maxRecDepth 20000 in
theorem gX10_isStone_X10_in : GoodIn wsX10_isStone (va_wsS RX10 92 yX10_in wsX10_in) := goodIn_app (goodIn_of _ (by decide +kernel)) ggX10_isStone_X10_in
theorem dX10_isStone_0 : decode cX10_isStone 0 = .ok (.iload_n 1, 1) := by decide +kernel
theorem dX10_isStone_1 : decode cX10_isStone 1 = .ok (.i2l, 1) := by decide +kernel
theorem dX10_isStone_2 : decode cX10_isStone 2 = .ok (.lconst 0, 1) := by decide +kernel
theorem dX10_isStone_3 : decode cX10_isStone 3 = .ok (.aload_n 0, 1) := by decide +kernel
theorem dX10_isStone_4 : decode cX10_isStone 4 = .ok (.getfield 106, 3) := by decide +kernel
theorem dX10_isStone_7 : decode cX10_isStone 7 = .ok (.iconst 1, 1) := by decide +kernel
theorem dX10_isStone_8 : decode cX10_isStone 8 = .ok (.isub, 1) := by decide +kernel
theorem dX10_isStone_9 : decode cX10_isStone 9 = .ok (.i2l, 1) := by decide +kernel
theorem dX10_isStone_10 : decode cX10_isStone 10 = .ok (.invokestatic 92, 3) := by decide +kernel
theorem dX10_isStone_13 : decode cX10_isStone 13 = .ok (.ireturn, 1) := by decide +kernel
theorem dX10_at_0 : decode cX10_at 0 = .ok (.iload_n 1, 1) := by decide +kernel
theorem dX10_at_1 : decode cX10_at 1 = .ok (.iconst 2, 1) := by decide +kernel
theorem dX10_at_2 : decode cX10_at 2 = .ok (.iload_n 2, 1) := by decide +kernel
theorem dX10_at_3 : decode cX10_at 3 = .ok (.imul, 1) := by decide +kernel
theorem dX10_at_4 : decode cX10_at 4 = .ok (.ishr, 1) := by decide +kernel
theorem dX10_at_5 : decode cX10_at 5 = .ok (.iconst 3, 1) := by decide +kernel
theorem dX10_at_6 : decode cX10_at 6 = .ok (.iand, 1) := by decide +kernel
theorem dX10_at_7 : decode cX10_at 7 = .ok (.ireturn, 1) := by decide +kernel
theorem dX10_told_0 : decode cX10_told 0 = .ok (.iload_n 0, 1) := by decide +kernel
theorem dX10_told_1 : decode cX10_told 1 = .ok (.ifCond .ne 7, 3) := by decide +kernel
theorem dX10_told_4 : decode cX10_told 4 = .ok (.iconst (-1), 1) := by decide +kernel
theorem dX10_told_5 : decode cX10_told 5 = .ok (.goto 4, 3) := by decide +kernel
theorem dX10_told_8 : decode cX10_told 8 = .ok (.iload_n 0, 1) := by decide +kernel
theorem dX10_told_9 : decode cX10_told 9 = .ok (.ireturn, 1) := by decide +kernel
theorem dX10_backOf_0 : decode cX10_backOf 0 = .ok (.aload_n 0, 1) := by decide +kernel
theorem dX10_backOf_1 : decode cX10_backOf 1 = .ok (.getfield 103, 3) := by decide +kernel
theorem dX10_backOf_4 : decode cX10_backOf 4 = .ok (.bipush 116, 2) := by decide +kernel
theorem dX10_backOf_6 : decode cX10_backOf 6 = .ok (.if_icmp .ne 12, 3) := by decide +kernel
theorem dX10_backOf_9 : decode cX10_backOf 9 = .ok (.aload_n 0, 1) := by decide +kernel
theorem dX10_backOf_10 : decode cX10_backOf 10 = .ok (.getfield 16, 3) := by decide +kernel
theorem dX10_backOf_13 : decode cX10_backOf 13 = .ok (.iload_n 1, 1) := by decide +kernel
theorem dX10_backOf_14 : decode cX10_backOf 14 = .ok (.iaload, 1) := by decide +kernel
theorem dX10_backOf_15 : decode cX10_backOf 15 = .ok (.goto 32, 3) := by decide +kernel
theorem dX10_backOf_18 : decode cX10_backOf 18 = .ok (.iload_n 1, 1) := by decide +kernel
theorem dX10_backOf_19 : decode cX10_backOf 19 = .ok (.ifCond .le 9, 3) := by decide +kernel
theorem dX10_backOf_22 : decode cX10_backOf 22 = .ok (.iload_n 1, 1) := by decide +kernel
theorem dX10_backOf_23 : decode cX10_backOf 23 = .ok (.iconst 1, 1) := by decide +kernel
theorem dX10_backOf_24 : decode cX10_backOf 24 = .ok (.isub, 1) := by decide +kernel
theorem dX10_backOf_25 : decode cX10_backOf 25 = .ok (.goto 22, 3) := by decide +kernel
theorem dX10_backOf_28 : decode cX10_backOf 28 = .ok (.aload_n 0, 1) := by decide +kernel
theorem dX10_backOf_29 : decode cX10_backOf 29 = .ok (.getfield 103, 3) := by decide +kernel
theorem dX10_backOf_32 : decode cX10_backOf 32 = .ok (.bipush 114, 2) := by decide +kernel
theorem dX10_backOf_34 : decode cX10_backOf 34 = .ok (.if_icmp .ne 12, 3) := by decide +kernel
theorem dX10_backOf_37 : decode cX10_backOf 37 = .ok (.aload_n 0, 1) := by decide +kernel
theorem dX10_backOf_38 : decode cX10_backOf 38 = .ok (.getfield 106, 3) := by decide +kernel
theorem dX10_backOf_41 : decode cX10_backOf 41 = .ok (.iconst 1, 1) := by decide +kernel
theorem dX10_backOf_42 : decode cX10_backOf 42 = .ok (.isub, 1) := by decide +kernel
theorem dX10_backOf_43 : decode cX10_backOf 43 = .ok (.goto 4, 3) := by decide +kernel
theorem dX10_backOf_46 : decode cX10_backOf 46 = .ok (.iconst (-1), 1) := by decide +kernel
theorem dX10_backOf_47 : decode cX10_backOf 47 = .ok (.ireturn, 1) := by decide +kernel
set_option maxRecDepth 20000 in
theorem ggX10_tellStone_X10_at : GoodIn wsX10_tellStone wsX10_at := goodIn_r _ [7] (by decide +kernel) (by decide +kernel)
set_option maxRecDepth 20000 in
theorem gX10_tellStone_X10_at : GoodIn wsX10_tellStone (wsV RX10 136 RX10 yX10_at wsX10_at) := goodIn_app (goodIn_of _ (by decide +kernel)) ggX10_tellStone_X10_at
set_option maxRecDepth 20000 in
theorem ggX10_tellStone_X10_told : GoodIn wsX10_tellStone wsX10_told := goodIn_r _ [10] (by decide +kernel) (by decide +kernel)
set_option maxRecDepth 20000 in
theorem gX10_tellStone_X10_told : GoodIn wsX10_tellStone (va_wsS RX10 139 yX10_told wsX10_told) := goodIn_app (goodIn_of _ (by decide +kernel)) ggX10_tellStone_X10_told
set_option maxRecDepth 20000 in
theorem ggX10_tellStone_X10_backOf : GoodIn wsX10_tellStone wsX10_backOf := goodIn_r _ [14, 15, 16, 17, 18, 19, 20, 21, 22, 23, 24, 25, 26, 27, 28, 29, 30, 31, 32, 33, 34, 35, 36, 37, 38, 39, 40, 41, 42, 43, 44, 45, 46, 47, 48, 49, 50, 51] (by decide +kernel) (by decide +kernel)
set_option maxRecDepth 20000 in
theorem gX10_tellStone_X10_backOf : GoodIn wsX10_tellStone (wsV RX10 142 RX10 yX10_backOf wsX10_backOf) := goodIn_app (goodIn_of _ (by decide +kernel)) ggX10_tellStone_X10_backOf
theorem dX10_tellStone_0 : decode cX10_tellStone 0 = .ok (.iload_n 2, 1) := by decide +kernel
theorem dX10_tellStone_1 : decode cX10_tellStone 1 = .ok (.tableswitch 71 0 2 #[27, 40, 46], 27) := by decide +kernel
theorem dX10_tellStone_28 : decode cX10_tellStone 28 = .ok (.aload_n 0, 1) := by decide +kernel
theorem dX10_tellStone_29 : decode cX10_tellStone 29 = .ok (.aload_n 0, 1) := by decide +kernel
theorem dX10_tellStone_30 : decode cX10_tellStone 30 = .ok (.getfield 116, 3) := by decide +kernel
theorem dX10_tellStone_33 : decode cX10_tellStone 33 = .ok (.iload_n 1, 1) := by decide +kernel
theorem dX10_tellStone_34 : decode cX10_tellStone 34 = .ok (.invokevirtual 136, 3) := by decide +kernel
theorem dX10_tellStone_37 : decode cX10_tellStone 37 = .ok (.invokestatic 139, 3) := by decide +kernel
theorem dX10_tellStone_40 : decode cX10_tellStone 40 = .ok (.ireturn, 1) := by decide +kernel
theorem dX10_tellStone_41 : decode cX10_tellStone 41 = .ok (.aload_n 0, 1) := by decide +kernel
theorem dX10_tellStone_42 : decode cX10_tellStone 42 = .ok (.iload_n 1, 1) := by decide +kernel
theorem dX10_tellStone_43 : decode cX10_tellStone 43 = .ok (.invokevirtual 142, 3) := by decide +kernel
theorem dX10_tellStone_46 : decode cX10_tellStone 46 = .ok (.ireturn, 1) := by decide +kernel
theorem dX10_tellStone_47 : decode cX10_tellStone 47 = .ok (.aload_n 0, 1) := by decide +kernel
theorem dX10_tellStone_48 : decode cX10_tellStone 48 = .ok (.getfield 52, 3) := by decide +kernel
theorem dX10_tellStone_51 : decode cX10_tellStone 51 = .ok (.iconst (-1), 1) := by decide +kernel
theorem dX10_tellStone_52 : decode cX10_tellStone 52 = .ok (.if_icmp .ne 7, 3) := by decide +kernel
theorem dX10_tellStone_55 : decode cX10_tellStone 55 = .ok (.iconst (-1), 1) := by decide +kernel
theorem dX10_tellStone_56 : decode cX10_tellStone 56 = .ok (.goto 15, 3) := by decide +kernel
theorem dX10_tellStone_59 : decode cX10_tellStone 59 = .ok (.aload_n 0, 1) := by decide +kernel
theorem dX10_tellStone_60 : decode cX10_tellStone 60 = .ok (.aload_n 0, 1) := by decide +kernel
theorem dX10_tellStone_61 : decode cX10_tellStone 61 = .ok (.getfield 52, 3) := by decide +kernel
theorem dX10_tellStone_64 : decode cX10_tellStone 64 = .ok (.iload_n 1, 1) := by decide +kernel
theorem dX10_tellStone_65 : decode cX10_tellStone 65 = .ok (.invokevirtual 136, 3) := by decide +kernel
theorem dX10_tellStone_68 : decode cX10_tellStone 68 = .ok (.invokestatic 139, 3) := by decide +kernel
theorem dX10_tellStone_71 : decode cX10_tellStone 71 = .ok (.ireturn, 1) := by decide +kernel
theorem dX10_tellStone_72 : decode cX10_tellStone 72 = .ok (.bipush (-102), 2) := by decide +kernel
theorem dX10_tellStone_74 : decode cX10_tellStone 74 = .ok (.ireturn, 1) := by decide +kernel
set_option maxRecDepth 20000 in
theorem ggX10_stone_X10_isStone : GoodIn wsX10_stone wsX10_isStone := goodIn_r _ [5, 6, 7, 8, 4, 9, 29, 30, 31, 32, 33, 34, 35, 36, 37, 38, 39, 40, 41, 42, 43, 44, 45, 46, 47, 48, 49, 50, 51, 52, 53, 54, 55, 56, 57, 58, 59, 60, 61, 62] (by decide +kernel) (by decide +kernel)
set_option maxRecDepth 20000 in
theorem gX10_stone_X10_isStone : GoodIn wsX10_stone (wsV RX10 145 RX10 yX10_isStone wsX10_isStone) := goodIn_app (goodIn_of _ (by decide +kernel)) ggX10_stone_X10_isStone
set_option maxRecDepth 20000 in
theorem ggX10_stone_X10_tellStone : GoodIn wsX10_stone wsX10_tellStone := goodIn_r _ [13, 14, 15, 16, 17, 18, 4, 19, 20, 21, 22, 23, 24, 25, 26, 27, 28, 6, 29, 30, 31, 32, 33, 34, 35, 36, 37, 38, 39, 40, 41, 42, 43, 44, 45, 46, 47, 48, 49, 50, 51, 52, 53, 54, 55, 56, 57, 58, 59, 60, 61, 62] (by decide +kernel) (by decide +kernel)
set_option maxRecDepth 20000 in
theorem gX10_stone_X10_tellStone : GoodIn wsX10_stone (wsV RX10 148 RX10 yX10_tellStone wsX10_tellStone) := goodIn_app (goodIn_of _ (by decide +kernel)) ggX10_stone_X10_tellStone
theorem dX10_stone_0 : decode cX10_stone 0 = .ok (.aload_n 0, 1) := by decide +kernel
theorem dX10_stone_1 : decode cX10_stone 1 = .ok (.iload_n 1, 1) := by decide +kernel
theorem dX10_stone_2 : decode cX10_stone 2 = .ok (.invokevirtual 145, 3) := by decide +kernel
theorem dX10_stone_5 : decode cX10_stone 5 = .ok (.ifCond .eq 12, 3) := by decide +kernel
theorem dX10_stone_8 : decode cX10_stone 8 = .ok (.aload_n 0, 1) := by decide +kernel
theorem dX10_stone_9 : decode cX10_stone 9 = .ok (.iload_n 1, 1) := by decide +kernel
theorem dX10_stone_10 : decode cX10_stone 10 = .ok (.iload_n 2, 1) := by decide +kernel
theorem dX10_stone_11 : decode cX10_stone 11 = .ok (.invokevirtual 148, 3) := by decide +kernel
theorem dX10_stone_14 : decode cX10_stone 14 = .ok (.goto 5, 3) := by decide +kernel
theorem dX10_stone_17 : decode cX10_stone 17 = .ok (.bipush (-101), 2) := by decide +kernel
theorem dX10_stone_19 : decode cX10_stone 19 = .ok (.ireturn, 1) := by decide +kernel
set_option maxRecDepth 20000 in
theorem ggX10_as_X10_isStone : GoodIn wsX10_as wsX10_isStone := goodIn_r _ [7, 8, 9, 10, 6, 11, 16, 17, 18, 19, 20, 21, 22, 23, 24, 25, 26, 27, 28, 29, 30, 31, 32, 33, 34, 35, 36, 37, 38, 39, 40, 41, 42, 43, 44, 45, 46, 47, 48, 49] (by decide +kernel) (by decide +kernel)
set_option maxRecDepth 20000 in
theorem gX10_as_X10_isStone : GoodIn wsX10_as (wsV RX10 145 RX10 yX10_isStone wsX10_isStone) := goodIn_app (goodIn_of _ (by decide +kernel)) ggX10_as_X10_isStone
set_option maxRecDepth 20000 in
theorem ggX10_as_X10_in : GoodIn wsX10_as wsX10_in := goodIn_r _ [11] (by decide +kernel) (by decide +kernel)
set_option maxRecDepth 20000 in
theorem gX10_as_X10_in : GoodIn wsX10_as (va_wsS RX10 92 yX10_in wsX10_in) := goodIn_app (goodIn_of _ (by decide +kernel)) ggX10_as_X10_in
set_option maxRecDepth 20000 in
theorem ggX10_as_X10_at : GoodIn wsX10_as wsX10_at := goodIn_r _ [15] (by decide +kernel) (by decide +kernel)
set_option maxRecDepth 20000 in
theorem gX10_as_X10_at : GoodIn wsX10_as (wsV RX10 136 RX10 yX10_at wsX10_at) := goodIn_app (goodIn_of _ (by decide +kernel)) ggX10_as_X10_at
theorem dX10_as_0 : decode cX10_as 0 = .ok (.aload_n 0, 1) := by decide +kernel
theorem dX10_as_1 : decode cX10_as 1 = .ok (.iload_n 1, 1) := by decide +kernel
theorem dX10_as_2 : decode cX10_as 2 = .ok (.invokevirtual 145, 3) := by decide +kernel
theorem dX10_as_5 : decode cX10_as 5 = .ok (.ifCond .ne 6, 3) := by decide +kernel
theorem dX10_as_8 : decode cX10_as 8 = .ok (.bipush (-101), 2) := by decide +kernel
theorem dX10_as_10 : decode cX10_as 10 = .ok (.ireturn, 1) := by decide +kernel
theorem dX10_as_11 : decode cX10_as 11 = .ok (.iload_n 2, 1) := by decide +kernel
theorem dX10_as_12 : decode cX10_as 12 = .ok (.i2l, 1) := by decide +kernel
theorem dX10_as_13 : decode cX10_as 13 = .ok (.lconst 0, 1) := by decide +kernel
theorem dX10_as_14 : decode cX10_as 14 = .ok (.ldc2_w 151, 3) := by decide +kernel
theorem dX10_as_17 : decode cX10_as 17 = .ok (.invokestatic 92, 3) := by decide +kernel
theorem dX10_as_20 : decode cX10_as 20 = .ok (.ifCond .ne 6, 3) := by decide +kernel
theorem dX10_as_23 : decode cX10_as 23 = .ok (.bipush (-102), 2) := by decide +kernel
theorem dX10_as_25 : decode cX10_as 25 = .ok (.ireturn, 1) := by decide +kernel
theorem dX10_as_26 : decode cX10_as 26 = .ok (.aload_n 0, 1) := by decide +kernel
theorem dX10_as_27 : decode cX10_as 27 = .ok (.aload_n 0, 1) := by decide +kernel
theorem dX10_as_28 : decode cX10_as 28 = .ok (.getfield 116, 3) := by decide +kernel
theorem dX10_as_31 : decode cX10_as 31 = .ok (.iload_n 1, 1) := by decide +kernel
theorem dX10_as_32 : decode cX10_as 32 = .ok (.invokevirtual 136, 3) := by decide +kernel
theorem dX10_as_35 : decode cX10_as 35 = .ok (.istore_n 3, 1) := by decide +kernel
theorem dX10_as_36 : decode cX10_as 36 = .ok (.iload_n 3, 1) := by decide +kernel
theorem dX10_as_37 : decode cX10_as 37 = .ok (.ifCond .le 26, 3) := by decide +kernel
theorem dX10_as_40 : decode cX10_as 40 = .ok (.iload_n 2, 1) := by decide +kernel
theorem dX10_as_41 : decode cX10_as 41 = .ok (.ifCond .eq 18, 3) := by decide +kernel
theorem dX10_as_44 : decode cX10_as 44 = .ok (.iload_n 2, 1) := by decide +kernel
theorem dX10_as_45 : decode cX10_as 45 = .ok (.iload_n 3, 1) := by decide +kernel
theorem dX10_as_46 : decode cX10_as 46 = .ok (.if_icmp .eq 13, 3) := by decide +kernel
theorem dX10_as_49 : decode cX10_as 49 = .ok (.iload_n 2, 1) := by decide +kernel
theorem dX10_as_50 : decode cX10_as 50 = .ok (.iconst 1, 1) := by decide +kernel
theorem dX10_as_51 : decode cX10_as 51 = .ok (.if_icmp .ne 12, 3) := by decide +kernel
theorem dX10_as_54 : decode cX10_as 54 = .ok (.iload_n 3, 1) := by decide +kernel
theorem dX10_as_55 : decode cX10_as 55 = .ok (.iconst 3, 1) := by decide +kernel
theorem dX10_as_56 : decode cX10_as 56 = .ok (.if_icmp .ne 7, 3) := by decide +kernel
theorem dX10_as_59 : decode cX10_as 59 = .ok (.iconst 1, 1) := by decide +kernel
theorem dX10_as_60 : decode cX10_as 60 = .ok (.goto 4, 3) := by decide +kernel
theorem dX10_as_63 : decode cX10_as 63 = .ok (.iconst 0, 1) := by decide +kernel
theorem dX10_as_64 : decode cX10_as 64 = .ok (.istore 4, 2) := by decide +kernel
theorem dX10_as_66 : decode cX10_as 66 = .ok (.iload 4, 2) := by decide +kernel
theorem dX10_as_68 : decode cX10_as 68 = .ok (.ifCond .eq 7, 3) := by decide +kernel
theorem dX10_as_71 : decode cX10_as 71 = .ok (.iload_n 1, 1) := by decide +kernel
theorem dX10_as_72 : decode cX10_as 72 = .ok (.goto 4, 3) := by decide +kernel
theorem dX10_as_75 : decode cX10_as 75 = .ok (.iconst (-1), 1) := by decide +kernel
theorem dX10_as_76 : decode cX10_as 76 = .ok (.ireturn, 1) := by decide +kernel
set_option maxRecDepth 20000 in
theorem ggX10_isBack_X10_backOf : GoodIn wsX10_isBack wsX10_backOf := goodIn_r _ [5, 6, 7, 8, 9, 10, 11, 12, 13, 14, 15, 16, 17, 18, 19, 20, 21, 22, 23, 24, 25, 26, 27, 28, 29, 30, 31, 32, 33, 34, 35, 36, 37, 38, 39, 40, 41, 42] (by decide +kernel) (by decide +kernel)
set_option maxRecDepth 20000 in
theorem gX10_isBack_X10_backOf : GoodIn wsX10_isBack (wsV RX10 142 RX10 yX10_backOf wsX10_backOf) := goodIn_app (goodIn_of _ (by decide +kernel)) ggX10_isBack_X10_backOf
theorem dX10_isBack_0 : decode cX10_isBack 0 = .ok (.iload_n 1, 1) := by decide +kernel
theorem dX10_isBack_1 : decode cX10_isBack 1 = .ok (.istore 4, 2) := by decide +kernel
theorem dX10_isBack_3 : decode cX10_isBack 3 = .ok (.iconst 0, 1) := by decide +kernel
theorem dX10_isBack_4 : decode cX10_isBack 4 = .ok (.istore 5, 2) := by decide +kernel
theorem dX10_isBack_6 : decode cX10_isBack 6 = .ok (.iload 5, 2) := by decide +kernel
theorem dX10_isBack_8 : decode cX10_isBack 8 = .ok (.iload_n 3, 1) := by decide +kernel
theorem dX10_isBack_9 : decode cX10_isBack 9 = .ok (.if_icmp .ge 23, 3) := by decide +kernel
theorem dX10_isBack_12 : decode cX10_isBack 12 = .ok (.iload 4, 2) := by decide +kernel
theorem dX10_isBack_14 : decode cX10_isBack 14 = .ok (.iconst (-1), 1) := by decide +kernel
theorem dX10_isBack_15 : decode cX10_isBack 15 = .ok (.if_icmp .eq 17, 3) := by decide +kernel
theorem dX10_isBack_18 : decode cX10_isBack 18 = .ok (.aload_n 0, 1) := by decide +kernel
theorem dX10_isBack_19 : decode cX10_isBack 19 = .ok (.iload 4, 2) := by decide +kernel
theorem dX10_isBack_21 : decode cX10_isBack 21 = .ok (.invokevirtual 142, 3) := by decide +kernel
theorem dX10_isBack_24 : decode cX10_isBack 24 = .ok (.istore 4, 2) := by decide +kernel
theorem dX10_isBack_26 : decode cX10_isBack 26 = .ok (.iinc 5 1, 3) := by decide +kernel
theorem dX10_isBack_29 : decode cX10_isBack 29 = .ok (.goto (-23), 3) := by decide +kernel
theorem dX10_isBack_32 : decode cX10_isBack 32 = .ok (.iload 4, 2) := by decide +kernel
theorem dX10_isBack_34 : decode cX10_isBack 34 = .ok (.iload_n 2, 1) := by decide +kernel
theorem dX10_isBack_35 : decode cX10_isBack 35 = .ok (.if_icmp .ne 7, 3) := by decide +kernel
theorem dX10_isBack_38 : decode cX10_isBack 38 = .ok (.iconst 1, 1) := by decide +kernel
theorem dX10_isBack_39 : decode cX10_isBack 39 = .ok (.goto 4, 3) := by decide +kernel
theorem dX10_isBack_42 : decode cX10_isBack 42 = .ok (.iconst 0, 1) := by decide +kernel
theorem dX10_isBack_43 : decode cX10_isBack 43 = .ok (.ireturn, 1) := by decide +kernel
set_option maxRecDepth 20000 in
theorem ggX10_mayLeap_X10_at : GoodIn wsX10_mayLeap wsX10_at := goodIn_r _ [6] (by decide +kernel) (by decide +kernel)
set_option maxRecDepth 20000 in
theorem gX10_mayLeap_X10_at : GoodIn wsX10_mayLeap (wsV RX10 136 RX10 yX10_at wsX10_at) := goodIn_app (goodIn_of _ (by decide +kernel)) ggX10_mayLeap_X10_at
theorem dX10_mayLeap_0 : decode cX10_mayLeap 0 = .ok (.aload_n 0, 1) := by decide +kernel
theorem dX10_mayLeap_1 : decode cX10_mayLeap 1 = .ok (.iload_n 1, 1) := by decide +kernel
theorem dX10_mayLeap_2 : decode cX10_mayLeap 2 = .ok (.iload_n 2, 1) := by decide +kernel
theorem dX10_mayLeap_3 : decode cX10_mayLeap 3 = .ok (.invokevirtual 136, 3) := by decide +kernel
theorem dX10_mayLeap_6 : decode cX10_mayLeap 6 = .ok (.istore 4, 2) := by decide +kernel
theorem dX10_mayLeap_8 : decode cX10_mayLeap 8 = .ok (.iload 4, 2) := by decide +kernel
theorem dX10_mayLeap_10 : decode cX10_mayLeap 10 = .ok (.ifCond .le 20, 3) := by decide +kernel
theorem dX10_mayLeap_13 : decode cX10_mayLeap 13 = .ok (.aload_n 0, 1) := by decide +kernel
theorem dX10_mayLeap_14 : decode cX10_mayLeap 14 = .ok (.getfield 109, 3) := by decide +kernel
theorem dX10_mayLeap_17 : decode cX10_mayLeap 17 = .ok (.ifCond .eq 9, 3) := by decide +kernel
theorem dX10_mayLeap_20 : decode cX10_mayLeap 20 = .ok (.iload 4, 2) := by decide +kernel
theorem dX10_mayLeap_22 : decode cX10_mayLeap 22 = .ok (.iload_n 3, 1) := by decide +kernel
theorem dX10_mayLeap_23 : decode cX10_mayLeap 23 = .ok (.if_icmp .eq 7, 3) := by decide +kernel
theorem dX10_mayLeap_26 : decode cX10_mayLeap 26 = .ok (.iconst 1, 1) := by decide +kernel
theorem dX10_mayLeap_27 : decode cX10_mayLeap 27 = .ok (.goto 4, 3) := by decide +kernel
theorem dX10_mayLeap_30 : decode cX10_mayLeap 30 = .ok (.iconst 0, 1) := by decide +kernel
theorem dX10_mayLeap_31 : decode cX10_mayLeap 31 = .ok (.ireturn, 1) := by decide +kernel
set_option maxRecDepth 20000 in
theorem ggX10_goesBy_X10_isBack : GoodIn wsX10_goesBy wsX10_isBack := goodIn_r _ [5, 6, 7, 8, 4, 9, 10, 11, 12, 22, 23, 24, 25, 26, 27, 28, 29, 30, 31, 32, 33, 34, 35, 36, 37, 38, 39, 40, 41, 42, 43, 44, 45, 46, 47, 48, 49, 50, 51, 52, 53, 54, 55] (by decide +kernel) (by decide +kernel)
set_option maxRecDepth 20000 in
theorem gX10_goesBy_X10_isBack : GoodIn wsX10_goesBy (wsV RX10 153 RX10 yX10_isBack wsX10_isBack) := goodIn_app (goodIn_of _ (by decide +kernel)) ggX10_goesBy_X10_isBack
set_option maxRecDepth 20000 in
theorem ggX10_goesBy_X10_backOf : GoodIn wsX10_goesBy wsX10_backOf := goodIn_r _ [9, 10, 11, 12, 22, 23, 24, 25, 26, 27, 28, 29, 30, 31, 32, 33, 34, 35, 36, 37, 38, 39, 40, 41, 42, 43, 44, 45, 46, 47, 48, 49, 50, 51, 52, 53, 54, 55] (by decide +kernel) (by decide +kernel)
set_option maxRecDepth 20000 in
theorem gX10_goesBy_X10_backOf : GoodIn wsX10_goesBy (wsV RX10 142 RX10 yX10_backOf wsX10_backOf) := goodIn_app (goodIn_of _ (by decide +kernel)) ggX10_goesBy_X10_backOf
set_option maxRecDepth 20000 in
theorem ggX10_goesBy_X10_mayLeap : GoodIn wsX10_goesBy wsX10_mayLeap := goodIn_r _ [16, 17, 18, 19, 20, 4, 21, 22, 23, 24, 25, 26, 27, 28, 29, 30, 31, 32, 33, 34, 35, 36, 37, 38, 39, 40, 41, 42, 43, 44, 45, 46, 47, 48, 49, 50, 51, 52, 53, 54, 55] (by decide +kernel) (by decide +kernel)
set_option maxRecDepth 20000 in
theorem gX10_goesBy_X10_mayLeap : GoodIn wsX10_goesBy (wsV RX10 157 RX10 yX10_mayLeap wsX10_mayLeap) := goodIn_app (goodIn_of _ (by decide +kernel)) ggX10_goesBy_X10_mayLeap
theorem dX10_goesBy_0 : decode cX10_goesBy 0 = .ok (.aload_n 0, 1) := by decide +kernel
theorem dX10_goesBy_1 : decode cX10_goesBy 1 = .ok (.iload_n 2, 1) := by decide +kernel
theorem dX10_goesBy_2 : decode cX10_goesBy 2 = .ok (.iload_n 3, 1) := by decide +kernel
theorem dX10_goesBy_3 : decode cX10_goesBy 3 = .ok (.iload 4, 2) := by decide +kernel
theorem dX10_goesBy_5 : decode cX10_goesBy 5 = .ok (.invokevirtual 153, 3) := by decide +kernel
theorem dX10_goesBy_8 : decode cX10_goesBy 8 = .ok (.istore 6, 2) := by decide +kernel
theorem dX10_goesBy_10 : decode cX10_goesBy 10 = .ok (.iload_n 2, 1) := by decide +kernel
theorem dX10_goesBy_11 : decode cX10_goesBy 11 = .ok (.istore 7, 2) := by decide +kernel
theorem dX10_goesBy_13 : decode cX10_goesBy 13 = .ok (.iconst 1, 1) := by decide +kernel
theorem dX10_goesBy_14 : decode cX10_goesBy 14 = .ok (.istore 8, 2) := by decide +kernel
theorem dX10_goesBy_16 : decode cX10_goesBy 16 = .ok (.iload 8, 2) := by decide +kernel
theorem dX10_goesBy_18 : decode cX10_goesBy 18 = .ok (.iload 4, 2) := by decide +kernel
theorem dX10_goesBy_20 : decode cX10_goesBy 20 = .ok (.if_icmp .ge 33, 3) := by decide +kernel
theorem dX10_goesBy_23 : decode cX10_goesBy 23 = .ok (.iload 6, 2) := by decide +kernel
theorem dX10_goesBy_25 : decode cX10_goesBy 25 = .ok (.ifCond .eq 28, 3) := by decide +kernel
theorem dX10_goesBy_28 : decode cX10_goesBy 28 = .ok (.aload_n 0, 1) := by decide +kernel
theorem dX10_goesBy_29 : decode cX10_goesBy 29 = .ok (.iload 7, 2) := by decide +kernel
theorem dX10_goesBy_31 : decode cX10_goesBy 31 = .ok (.invokevirtual 142, 3) := by decide +kernel
theorem dX10_goesBy_34 : decode cX10_goesBy 34 = .ok (.istore 7, 2) := by decide +kernel
theorem dX10_goesBy_36 : decode cX10_goesBy 36 = .ok (.aload_n 0, 1) := by decide +kernel
theorem dX10_goesBy_37 : decode cX10_goesBy 37 = .ok (.iload_n 1, 1) := by decide +kernel
theorem dX10_goesBy_38 : decode cX10_goesBy 38 = .ok (.iload 7, 2) := by decide +kernel
theorem dX10_goesBy_40 : decode cX10_goesBy 40 = .ok (.iload 5, 2) := by decide +kernel
theorem dX10_goesBy_42 : decode cX10_goesBy 42 = .ok (.invokevirtual 157, 3) := by decide +kernel
theorem dX10_goesBy_45 : decode cX10_goesBy 45 = .ok (.istore 6, 2) := by decide +kernel
theorem dX10_goesBy_47 : decode cX10_goesBy 47 = .ok (.iinc 8 1, 3) := by decide +kernel
theorem dX10_goesBy_50 : decode cX10_goesBy 50 = .ok (.goto (-34), 3) := by decide +kernel
theorem dX10_goesBy_53 : decode cX10_goesBy 53 = .ok (.iload 6, 2) := by decide +kernel
theorem dX10_goesBy_55 : decode cX10_goesBy 55 = .ok (.ireturn, 1) := by decide +kernel
set_option maxRecDepth 20000 in
theorem ggX10_canGo_X10_at : GoodIn wsX10_canGo wsX10_at := goodIn_r _ [6] (by decide +kernel) (by decide +kernel)
set_option maxRecDepth 20000 in
theorem gX10_canGo_X10_at : GoodIn wsX10_canGo (wsV RX10 136 RX10 yX10_at wsX10_at) := goodIn_app (goodIn_of _ (by decide +kernel)) ggX10_canGo_X10_at
set_option maxRecDepth 20000 in
theorem ggX10_canGo_X10_goesBy : GoodIn wsX10_canGo wsX10_goesBy := goodIn_r _ [10, 11, 12, 13, 5, 14, 15, 16, 17, 18, 19, 20, 21, 22, 23, 24, 25, 26, 2, 3, 4, 6, 27, 28, 29, 30, 31, 32, 33, 34, 35, 36, 37, 38, 39, 40, 41, 42, 43, 44, 45, 46, 47, 48, 49, 50, 51, 52, 53, 54, 55, 56, 57, 58, 59, 60] (by decide +kernel) (by decide +kernel)
set_option maxRecDepth 20000 in
theorem gX10_canGo_X10_goesBy : GoodIn wsX10_canGo (wsV RX10 160 RX10 yX10_goesBy wsX10_goesBy) := goodIn_app (goodIn_of _ (by decide +kernel)) ggX10_canGo_X10_goesBy
theorem dX10_canGo_0 : decode cX10_canGo 0 = .ok (.aload_n 0, 1) := by decide +kernel
theorem dX10_canGo_1 : decode cX10_canGo 1 = .ok (.iload_n 1, 1) := by decide +kernel
theorem dX10_canGo_2 : decode cX10_canGo 2 = .ok (.iload_n 2, 1) := by decide +kernel
theorem dX10_canGo_3 : decode cX10_canGo 3 = .ok (.invokevirtual 136, 3) := by decide +kernel
theorem dX10_canGo_6 : decode cX10_canGo 6 = .ok (.istore 4, 2) := by decide +kernel
theorem dX10_canGo_8 : decode cX10_canGo 8 = .ok (.iload 4, 2) := by decide +kernel
theorem dX10_canGo_10 : decode cX10_canGo 10 = .ok (.ifCond .eq 17, 3) := by decide +kernel
theorem dX10_canGo_13 : decode cX10_canGo 13 = .ok (.aload_n 0, 1) := by decide +kernel
theorem dX10_canGo_14 : decode cX10_canGo 14 = .ok (.iload_n 1, 1) := by decide +kernel
theorem dX10_canGo_15 : decode cX10_canGo 15 = .ok (.iload_n 3, 1) := by decide +kernel
theorem dX10_canGo_16 : decode cX10_canGo 16 = .ok (.invokevirtual 136, 3) := by decide +kernel
theorem dX10_canGo_19 : decode cX10_canGo 19 = .ok (.ifCond .ne 8, 3) := by decide +kernel
theorem dX10_canGo_22 : decode cX10_canGo 22 = .ok (.iload_n 2, 1) := by decide +kernel
theorem dX10_canGo_23 : decode cX10_canGo 23 = .ok (.iload_n 3, 1) := by decide +kernel
theorem dX10_canGo_24 : decode cX10_canGo 24 = .ok (.if_icmp .ne 5, 3) := by decide +kernel
theorem dX10_canGo_27 : decode cX10_canGo 27 = .ok (.iconst 0, 1) := by decide +kernel
theorem dX10_canGo_28 : decode cX10_canGo 28 = .ok (.ireturn, 1) := by decide +kernel
theorem dX10_canGo_29 : decode cX10_canGo 29 = .ok (.iconst 0, 1) := by decide +kernel
theorem dX10_canGo_30 : decode cX10_canGo 30 = .ok (.istore 5, 2) := by decide +kernel
theorem dX10_canGo_32 : decode cX10_canGo 32 = .ok (.iconst 1, 1) := by decide +kernel
theorem dX10_canGo_33 : decode cX10_canGo 33 = .ok (.istore 6, 2) := by decide +kernel
theorem dX10_canGo_35 : decode cX10_canGo 35 = .ok (.iload 6, 2) := by decide +kernel
theorem dX10_canGo_37 : decode cX10_canGo 37 = .ok (.aload_n 0, 1) := by decide +kernel
theorem dX10_canGo_38 : decode cX10_canGo 38 = .ok (.getfield 113, 3) := by decide +kernel
theorem dX10_canGo_41 : decode cX10_canGo 41 = .ok (.ifCond .eq 7, 3) := by decide +kernel
theorem dX10_canGo_44 : decode cX10_canGo 44 = .ok (.iconst 4, 1) := by decide +kernel
theorem dX10_canGo_45 : decode cX10_canGo 45 = .ok (.goto 4, 3) := by decide +kernel
theorem dX10_canGo_48 : decode cX10_canGo 48 = .ok (.iconst 3, 1) := by decide +kernel
theorem dX10_canGo_49 : decode cX10_canGo 49 = .ok (.if_icmp .ge 73, 3) := by decide +kernel
theorem dX10_canGo_52 : decode cX10_canGo 52 = .ok (.iload 5, 2) := by decide +kernel
theorem dX10_canGo_54 : decode cX10_canGo 54 = .ok (.ifCond .ne 23, 3) := by decide +kernel
theorem dX10_canGo_57 : decode cX10_canGo 57 = .ok (.iload 4, 2) := by decide +kernel
theorem dX10_canGo_59 : decode cX10_canGo 59 = .ok (.iconst 1, 1) := by decide +kernel
theorem dX10_canGo_60 : decode cX10_canGo 60 = .ok (.if_icmp .eq 21, 3) := by decide +kernel
theorem dX10_canGo_63 : decode cX10_canGo 63 = .ok (.aload_n 0, 1) := by decide +kernel
theorem dX10_canGo_64 : decode cX10_canGo 64 = .ok (.iload_n 1, 1) := by decide +kernel
theorem dX10_canGo_65 : decode cX10_canGo 65 = .ok (.iload_n 2, 1) := by decide +kernel
theorem dX10_canGo_66 : decode cX10_canGo 66 = .ok (.iload_n 3, 1) := by decide +kernel
theorem dX10_canGo_67 : decode cX10_canGo 67 = .ok (.iload 6, 2) := by decide +kernel
theorem dX10_canGo_69 : decode cX10_canGo 69 = .ok (.iload 4, 2) := by decide +kernel
theorem dX10_canGo_71 : decode cX10_canGo 71 = .ok (.invokevirtual 160, 3) := by decide +kernel
theorem dX10_canGo_74 : decode cX10_canGo 74 = .ok (.ifCond .eq 7, 3) := by decide +kernel
theorem dX10_canGo_77 : decode cX10_canGo 77 = .ok (.iconst 1, 1) := by decide +kernel
theorem dX10_canGo_78 : decode cX10_canGo 78 = .ok (.goto 4, 3) := by decide +kernel
theorem dX10_canGo_81 : decode cX10_canGo 81 = .ok (.iconst 0, 1) := by decide +kernel
theorem dX10_canGo_82 : decode cX10_canGo 82 = .ok (.istore 5, 2) := by decide +kernel
theorem dX10_canGo_84 : decode cX10_canGo 84 = .ok (.iload 5, 2) := by decide +kernel
theorem dX10_canGo_86 : decode cX10_canGo 86 = .ok (.ifCond .ne 23, 3) := by decide +kernel
theorem dX10_canGo_89 : decode cX10_canGo 89 = .ok (.iload 4, 2) := by decide +kernel
theorem dX10_canGo_91 : decode cX10_canGo 91 = .ok (.iconst 2, 1) := by decide +kernel
theorem dX10_canGo_92 : decode cX10_canGo 92 = .ok (.if_icmp .eq 21, 3) := by decide +kernel
theorem dX10_canGo_95 : decode cX10_canGo 95 = .ok (.aload_n 0, 1) := by decide +kernel
theorem dX10_canGo_96 : decode cX10_canGo 96 = .ok (.iload_n 1, 1) := by decide +kernel
theorem dX10_canGo_97 : decode cX10_canGo 97 = .ok (.iload_n 3, 1) := by decide +kernel
theorem dX10_canGo_98 : decode cX10_canGo 98 = .ok (.iload_n 2, 1) := by decide +kernel
theorem dX10_canGo_99 : decode cX10_canGo 99 = .ok (.iload 6, 2) := by decide +kernel
theorem dX10_canGo_101 : decode cX10_canGo 101 = .ok (.iload 4, 2) := by decide +kernel
theorem dX10_canGo_103 : decode cX10_canGo 103 = .ok (.invokevirtual 160, 3) := by decide +kernel
theorem dX10_canGo_106 : decode cX10_canGo 106 = .ok (.ifCond .eq 7, 3) := by decide +kernel
theorem dX10_canGo_109 : decode cX10_canGo 109 = .ok (.iconst 1, 1) := by decide +kernel
theorem dX10_canGo_110 : decode cX10_canGo 110 = .ok (.goto 4, 3) := by decide +kernel
theorem dX10_canGo_113 : decode cX10_canGo 113 = .ok (.iconst 0, 1) := by decide +kernel
theorem dX10_canGo_114 : decode cX10_canGo 114 = .ok (.istore 5, 2) := by decide +kernel
theorem dX10_canGo_116 : decode cX10_canGo 116 = .ok (.iinc 6 1, 3) := by decide +kernel
theorem dX10_canGo_119 : decode cX10_canGo 119 = .ok (.goto (-84), 3) := by decide +kernel
theorem dX10_canGo_122 : decode cX10_canGo 122 = .ok (.iload 5, 2) := by decide +kernel
theorem dX10_canGo_124 : decode cX10_canGo 124 = .ok (.ireturn, 1) := by decide +kernel
theorem dX10_moved_0 : decode cX10_moved 0 = .ok (.iload_n 0, 1) := by decide +kernel
theorem dX10_moved_1 : decode cX10_moved 1 = .ok (.iconst 2, 1) := by decide +kernel
theorem dX10_moved_2 : decode cX10_moved 2 = .ok (.iload_n 1, 1) := by decide +kernel
theorem dX10_moved_3 : decode cX10_moved 3 = .ok (.imul, 1) := by decide +kernel
theorem dX10_moved_4 : decode cX10_moved 4 = .ok (.ishr, 1) := by decide +kernel
theorem dX10_moved_5 : decode cX10_moved 5 = .ok (.iconst 3, 1) := by decide +kernel
theorem dX10_moved_6 : decode cX10_moved 6 = .ok (.iand, 1) := by decide +kernel
theorem dX10_moved_7 : decode cX10_moved 7 = .ok (.istore_n 3, 1) := by decide +kernel
theorem dX10_moved_8 : decode cX10_moved 8 = .ok (.iload_n 0, 1) := by decide +kernel
theorem dX10_moved_9 : decode cX10_moved 9 = .ok (.iconst 3, 1) := by decide +kernel
theorem dX10_moved_10 : decode cX10_moved 10 = .ok (.iconst 2, 1) := by decide +kernel
theorem dX10_moved_11 : decode cX10_moved 11 = .ok (.iload_n 1, 1) := by decide +kernel
theorem dX10_moved_12 : decode cX10_moved 12 = .ok (.imul, 1) := by decide +kernel
theorem dX10_moved_13 : decode cX10_moved 13 = .ok (.ishl, 1) := by decide +kernel
theorem dX10_moved_14 : decode cX10_moved 14 = .ok (.iconst (-1), 1) := by decide +kernel
theorem dX10_moved_15 : decode cX10_moved 15 = .ok (.ixor, 1) := by decide +kernel
theorem dX10_moved_16 : decode cX10_moved 16 = .ok (.iand, 1) := by decide +kernel
theorem dX10_moved_17 : decode cX10_moved 17 = .ok (.iload_n 3, 1) := by decide +kernel
theorem dX10_moved_18 : decode cX10_moved 18 = .ok (.iconst 2, 1) := by decide +kernel
theorem dX10_moved_19 : decode cX10_moved 19 = .ok (.iload_n 2, 1) := by decide +kernel
theorem dX10_moved_20 : decode cX10_moved 20 = .ok (.imul, 1) := by decide +kernel
theorem dX10_moved_21 : decode cX10_moved 21 = .ok (.ishl, 1) := by decide +kernel
theorem dX10_moved_22 : decode cX10_moved 22 = .ok (.ior, 1) := by decide +kernel
theorem dX10_moved_23 : decode cX10_moved 23 = .ok (.ireturn, 1) := by decide +kernel
set_option maxRecDepth 20000 in
theorem ggX10_can_X10_isStone : GoodIn wsX10_can wsX10_isStone := goodIn_r _ [6, 7, 8, 9, 5, 10, 39, 40, 41, 42, 43, 44, 45, 46, 47, 48, 49, 50, 51, 52, 53, 54, 55, 56, 57, 58, 59, 60, 61, 62, 63, 64, 65, 66, 67, 68, 69, 70, 71, 72] (by decide +kernel) (by decide +kernel)
set_option maxRecDepth 20000 in
theorem gX10_can_X10_isStone : GoodIn wsX10_can (wsV RX10 145 RX10 yX10_isStone wsX10_isStone) := goodIn_app (goodIn_of _ (by decide +kernel)) ggX10_can_X10_isStone
set_option maxRecDepth 20000 in
theorem ggX10_can_X10_canGo : GoodIn wsX10_can wsX10_canGo := goodIn_r _ [14, 15, 16, 17, 18, 5, 19, 20, 21, 22, 23, 24, 25, 26, 27, 28, 29, 30, 31, 32, 33, 7, 34, 35, 36, 37, 38, 39, 40, 41, 42, 43, 44, 45, 46, 47, 48, 49, 50, 51, 52, 53, 54, 55, 56, 57, 58, 59, 60, 61, 62, 63, 64, 65, 66, 67, 68, 69, 70, 71, 72] (by decide +kernel) (by decide +kernel)
set_option maxRecDepth 20000 in
theorem gX10_can_X10_canGo : GoodIn wsX10_can (wsV RX10 164 RX10 yX10_canGo wsX10_canGo) := goodIn_app (goodIn_of _ (by decide +kernel)) ggX10_can_X10_canGo
theorem dX10_can_0 : decode cX10_can 0 = .ok (.aload_n 0, 1) := by decide +kernel
theorem dX10_can_1 : decode cX10_can 1 = .ok (.iload_n 1, 1) := by decide +kernel
theorem dX10_can_2 : decode cX10_can 2 = .ok (.invokevirtual 145, 3) := by decide +kernel
theorem dX10_can_5 : decode cX10_can 5 = .ok (.ifCond .eq 11, 3) := by decide +kernel
theorem dX10_can_8 : decode cX10_can 8 = .ok (.aload_n 0, 1) := by decide +kernel
theorem dX10_can_9 : decode cX10_can 9 = .ok (.iload_n 2, 1) := by decide +kernel
theorem dX10_can_10 : decode cX10_can 10 = .ok (.invokevirtual 145, 3) := by decide +kernel
theorem dX10_can_13 : decode cX10_can 13 = .ok (.ifCond .ne 6, 3) := by decide +kernel
theorem dX10_can_16 : decode cX10_can 16 = .ok (.bipush (-101), 2) := by decide +kernel
theorem dX10_can_18 : decode cX10_can 18 = .ok (.ireturn, 1) := by decide +kernel
theorem dX10_can_19 : decode cX10_can 19 = .ok (.aload_n 0, 1) := by decide +kernel
theorem dX10_can_20 : decode cX10_can 20 = .ok (.aload_n 0, 1) := by decide +kernel
theorem dX10_can_21 : decode cX10_can 21 = .ok (.getfield 116, 3) := by decide +kernel
theorem dX10_can_24 : decode cX10_can 24 = .ok (.iload_n 1, 1) := by decide +kernel
theorem dX10_can_25 : decode cX10_can 25 = .ok (.iload_n 2, 1) := by decide +kernel
theorem dX10_can_26 : decode cX10_can 26 = .ok (.invokevirtual 164, 3) := by decide +kernel
theorem dX10_can_29 : decode cX10_can 29 = .ok (.ifCond .eq 7, 3) := by decide +kernel
theorem dX10_can_32 : decode cX10_can 32 = .ok (.iconst 1, 1) := by decide +kernel
theorem dX10_can_33 : decode cX10_can 33 = .ok (.goto 4, 3) := by decide +kernel
theorem dX10_can_36 : decode cX10_can 36 = .ok (.iconst 0, 1) := by decide +kernel
theorem dX10_can_37 : decode cX10_can 37 = .ok (.ireturn, 1) := by decide +kernel
set_option maxRecDepth 20000 in
theorem ggX10_move_X10_isStone : GoodIn wsX10_move wsX10_isStone := goodIn_r _ [8, 9, 10, 11, 7, 12, 44, 45, 46, 47, 48, 49, 50, 51, 52, 53, 54, 55, 56, 57, 58, 59, 60, 61, 62, 63, 64, 65, 66, 67, 68, 69, 70, 71, 72, 73, 74, 75, 76, 77] (by decide +kernel) (by decide +kernel)
set_option maxRecDepth 20000 in
theorem gX10_move_X10_isStone : GoodIn wsX10_move (wsV RX10 145 RX10 yX10_isStone wsX10_isStone) := goodIn_app (goodIn_of _ (by decide +kernel)) ggX10_move_X10_isStone
set_option maxRecDepth 20000 in
theorem ggX10_move_X10_canGo : GoodIn wsX10_move wsX10_canGo := goodIn_r _ [16, 17, 18, 19, 20, 7, 21, 22, 23, 24, 25, 26, 27, 28, 29, 30, 31, 32, 33, 34, 35, 9, 36, 37, 38, 39, 40, 44, 45, 46, 47, 48, 49, 50, 51, 52, 53, 54, 55, 56, 57, 58, 59, 60, 61, 62, 63, 64, 65, 66, 67, 68, 69, 70, 71, 72, 73, 74, 75, 76, 77] (by decide +kernel) (by decide +kernel)
set_option maxRecDepth 20000 in
theorem gX10_move_X10_canGo : GoodIn wsX10_move (wsV RX10 164 RX10 yX10_canGo wsX10_canGo) := goodIn_app (goodIn_of _ (by decide +kernel)) ggX10_move_X10_canGo
set_option maxRecDepth 20000 in
theorem ggX10_move_X10_moved : GoodIn wsX10_move wsX10_moved := goodIn_r _ [43] (by decide +kernel) (by decide +kernel)
set_option maxRecDepth 20000 in
theorem gX10_move_X10_moved : GoodIn wsX10_move (va_wsS RX10 167 yX10_moved wsX10_moved) := goodIn_app (goodIn_of _ (by decide +kernel)) ggX10_move_X10_moved
theorem dX10_move_0 : decode cX10_move 0 = .ok (.aload_n 0, 1) := by decide +kernel
theorem dX10_move_1 : decode cX10_move 1 = .ok (.iload_n 1, 1) := by decide +kernel
theorem dX10_move_2 : decode cX10_move 2 = .ok (.invokevirtual 145, 3) := by decide +kernel
theorem dX10_move_5 : decode cX10_move 5 = .ok (.ifCond .eq 11, 3) := by decide +kernel
theorem dX10_move_8 : decode cX10_move 8 = .ok (.aload_n 0, 1) := by decide +kernel
theorem dX10_move_9 : decode cX10_move 9 = .ok (.iload_n 2, 1) := by decide +kernel
theorem dX10_move_10 : decode cX10_move 10 = .ok (.invokevirtual 145, 3) := by decide +kernel
theorem dX10_move_13 : decode cX10_move 13 = .ok (.ifCond .ne 6, 3) := by decide +kernel
theorem dX10_move_16 : decode cX10_move 16 = .ok (.bipush (-101), 2) := by decide +kernel
theorem dX10_move_18 : decode cX10_move 18 = .ok (.ireturn, 1) := by decide +kernel
theorem dX10_move_19 : decode cX10_move 19 = .ok (.aload_n 0, 1) := by decide +kernel
theorem dX10_move_20 : decode cX10_move 20 = .ok (.aload_n 0, 1) := by decide +kernel
theorem dX10_move_21 : decode cX10_move 21 = .ok (.getfield 116, 3) := by decide +kernel
theorem dX10_move_24 : decode cX10_move 24 = .ok (.iload_n 1, 1) := by decide +kernel
theorem dX10_move_25 : decode cX10_move 25 = .ok (.iload_n 2, 1) := by decide +kernel
theorem dX10_move_26 : decode cX10_move 26 = .ok (.invokevirtual 164, 3) := by decide +kernel
theorem dX10_move_29 : decode cX10_move 29 = .ok (.ifCond .ne 6, 3) := by decide +kernel
theorem dX10_move_32 : decode cX10_move 32 = .ok (.bipush (-103), 2) := by decide +kernel
theorem dX10_move_34 : decode cX10_move 34 = .ok (.ireturn, 1) := by decide +kernel
theorem dX10_move_35 : decode cX10_move 35 = .ok (.aload_n 0, 1) := by decide +kernel
theorem dX10_move_36 : decode cX10_move 36 = .ok (.getfield 119, 3) := by decide +kernel
theorem dX10_move_39 : decode cX10_move 39 = .ok (.bipush 60, 2) := by decide +kernel
theorem dX10_move_41 : decode cX10_move 41 = .ok (.if_icmp .ne 6, 3) := by decide +kernel
theorem dX10_move_44 : decode cX10_move 44 = .ok (.bipush (-104), 2) := by decide +kernel
theorem dX10_move_46 : decode cX10_move 46 = .ok (.ireturn, 1) := by decide +kernel
theorem dX10_move_47 : decode cX10_move 47 = .ok (.aload_n 0, 1) := by decide +kernel
theorem dX10_move_48 : decode cX10_move 48 = .ok (.aload_n 0, 1) := by decide +kernel
theorem dX10_move_49 : decode cX10_move 49 = .ok (.getfield 116, 3) := by decide +kernel
theorem dX10_move_52 : decode cX10_move 52 = .ok (.iload_n 1, 1) := by decide +kernel
theorem dX10_move_53 : decode cX10_move 53 = .ok (.iload_n 2, 1) := by decide +kernel
theorem dX10_move_54 : decode cX10_move 54 = .ok (.invokestatic 167, 3) := by decide +kernel
theorem dX10_move_57 : decode cX10_move 57 = .ok (.putfield 116, 3) := by decide +kernel
theorem dX10_move_60 : decode cX10_move 60 = .ok (.aload_n 0, 1) := by decide +kernel
theorem dX10_move_61 : decode cX10_move 61 = .ok (.getfield 19, 3) := by decide +kernel
theorem dX10_move_64 : decode cX10_move 64 = .ok (.iconst 2, 1) := by decide +kernel
theorem dX10_move_65 : decode cX10_move 65 = .ok (.aload_n 0, 1) := by decide +kernel
theorem dX10_move_66 : decode cX10_move 66 = .ok (.getfield 119, 3) := by decide +kernel
theorem dX10_move_69 : decode cX10_move 69 = .ok (.imul, 1) := by decide +kernel
theorem dX10_move_70 : decode cX10_move 70 = .ok (.iload_n 1, 1) := by decide +kernel
theorem dX10_move_71 : decode cX10_move 71 = .ok (.iastore, 1) := by decide +kernel
theorem dX10_move_72 : decode cX10_move 72 = .ok (.aload_n 0, 1) := by decide +kernel
theorem dX10_move_73 : decode cX10_move 73 = .ok (.getfield 19, 3) := by decide +kernel
theorem dX10_move_76 : decode cX10_move 76 = .ok (.iconst 2, 1) := by decide +kernel
theorem dX10_move_77 : decode cX10_move 77 = .ok (.aload_n 0, 1) := by decide +kernel
theorem dX10_move_78 : decode cX10_move 78 = .ok (.getfield 119, 3) := by decide +kernel
theorem dX10_move_81 : decode cX10_move 81 = .ok (.imul, 1) := by decide +kernel
theorem dX10_move_82 : decode cX10_move 82 = .ok (.iconst 1, 1) := by decide +kernel
theorem dX10_move_83 : decode cX10_move 83 = .ok (.iadd, 1) := by decide +kernel
theorem dX10_move_84 : decode cX10_move 84 = .ok (.iload_n 2, 1) := by decide +kernel
theorem dX10_move_85 : decode cX10_move 85 = .ok (.iastore, 1) := by decide +kernel
theorem dX10_move_86 : decode cX10_move 86 = .ok (.aload_n 0, 1) := by decide +kernel
theorem dX10_move_87 : decode cX10_move 87 = .ok (.dup, 1) := by decide +kernel
theorem dX10_move_88 : decode cX10_move 88 = .ok (.getfield 119, 3) := by decide +kernel
theorem dX10_move_91 : decode cX10_move 91 = .ok (.iconst 1, 1) := by decide +kernel
theorem dX10_move_92 : decode cX10_move 92 = .ok (.iadd, 1) := by decide +kernel
theorem dX10_move_93 : decode cX10_move 93 = .ok (.putfield 119, 3) := by decide +kernel
theorem dX10_move_96 : decode cX10_move 96 = .ok (.aload_n 0, 1) := by decide +kernel
theorem dX10_move_97 : decode cX10_move 97 = .ok (.getfield 119, 3) := by decide +kernel
theorem dX10_move_100 : decode cX10_move 100 = .ok (.ireturn, 1) := by decide +kernel
set_option maxRecDepth 20000 in
theorem ggX10_back_X10_moved : GoodIn wsX10_back wsX10_moved := goodIn_r _ [7] (by decide +kernel) (by decide +kernel)
set_option maxRecDepth 20000 in
theorem gX10_back_X10_moved : GoodIn wsX10_back (va_wsS RX10 167 yX10_moved wsX10_moved) := goodIn_app (goodIn_of _ (by decide +kernel)) ggX10_back_X10_moved
theorem dX10_back_0 : decode cX10_back 0 = .ok (.aload_n 0, 1) := by decide +kernel
theorem dX10_back_1 : decode cX10_back 1 = .ok (.getfield 119, 3) := by decide +kernel
theorem dX10_back_4 : decode cX10_back 4 = .ok (.ifCond .ne 6, 3) := by decide +kernel
theorem dX10_back_7 : decode cX10_back 7 = .ok (.bipush (-103), 2) := by decide +kernel
theorem dX10_back_9 : decode cX10_back 9 = .ok (.ireturn, 1) := by decide +kernel
theorem dX10_back_10 : decode cX10_back 10 = .ok (.aload_n 0, 1) := by decide +kernel
theorem dX10_back_11 : decode cX10_back 11 = .ok (.dup, 1) := by decide +kernel
theorem dX10_back_12 : decode cX10_back 12 = .ok (.getfield 119, 3) := by decide +kernel
theorem dX10_back_15 : decode cX10_back 15 = .ok (.iconst 1, 1) := by decide +kernel
theorem dX10_back_16 : decode cX10_back 16 = .ok (.isub, 1) := by decide +kernel
theorem dX10_back_17 : decode cX10_back 17 = .ok (.putfield 119, 3) := by decide +kernel
theorem dX10_back_20 : decode cX10_back 20 = .ok (.aload_n 0, 1) := by decide +kernel
theorem dX10_back_21 : decode cX10_back 21 = .ok (.aload_n 0, 1) := by decide +kernel
theorem dX10_back_22 : decode cX10_back 22 = .ok (.getfield 116, 3) := by decide +kernel
theorem dX10_back_25 : decode cX10_back 25 = .ok (.aload_n 0, 1) := by decide +kernel
theorem dX10_back_26 : decode cX10_back 26 = .ok (.getfield 19, 3) := by decide +kernel
theorem dX10_back_29 : decode cX10_back 29 = .ok (.iconst 2, 1) := by decide +kernel
theorem dX10_back_30 : decode cX10_back 30 = .ok (.aload_n 0, 1) := by decide +kernel
theorem dX10_back_31 : decode cX10_back 31 = .ok (.getfield 119, 3) := by decide +kernel
theorem dX10_back_34 : decode cX10_back 34 = .ok (.imul, 1) := by decide +kernel
theorem dX10_back_35 : decode cX10_back 35 = .ok (.iconst 1, 1) := by decide +kernel
theorem dX10_back_36 : decode cX10_back 36 = .ok (.iadd, 1) := by decide +kernel
theorem dX10_back_37 : decode cX10_back 37 = .ok (.iaload, 1) := by decide +kernel
theorem dX10_back_38 : decode cX10_back 38 = .ok (.aload_n 0, 1) := by decide +kernel
theorem dX10_back_39 : decode cX10_back 39 = .ok (.getfield 19, 3) := by decide +kernel
theorem dX10_back_42 : decode cX10_back 42 = .ok (.iconst 2, 1) := by decide +kernel
theorem dX10_back_43 : decode cX10_back 43 = .ok (.aload_n 0, 1) := by decide +kernel
theorem dX10_back_44 : decode cX10_back 44 = .ok (.getfield 119, 3) := by decide +kernel
theorem dX10_back_47 : decode cX10_back 47 = .ok (.imul, 1) := by decide +kernel
theorem dX10_back_48 : decode cX10_back 48 = .ok (.iaload, 1) := by decide +kernel
theorem dX10_back_49 : decode cX10_back 49 = .ok (.invokestatic 167, 3) := by decide +kernel
theorem dX10_back_52 : decode cX10_back 52 = .ok (.putfield 116, 3) := by decide +kernel
theorem dX10_back_55 : decode cX10_back 55 = .ok (.aload_n 0, 1) := by decide +kernel
theorem dX10_back_56 : decode cX10_back 56 = .ok (.getfield 119, 3) := by decide +kernel
theorem dX10_back_59 : decode cX10_back 59 = .ok (.ireturn, 1) := by decide +kernel
set_option maxRecDepth 20000 in
theorem ggX10_manyOf_X10_canGo : GoodIn wsX10_manyOf wsX10_canGo := goodIn_r _ [6, 7, 8, 9, 10, 5, 11, 12, 13, 14, 15, 16, 17, 18, 19, 20, 21, 22, 23, 24, 25, 1, 26, 27, 28, 29, 30, 31, 32, 33, 34, 35, 36, 37, 38, 39, 40, 41, 42, 43, 44, 45, 46, 47, 48, 49, 50, 51, 52, 53, 54, 55, 56, 57, 58, 59, 60, 61, 62, 63, 64] (by decide +kernel) (by decide +kernel)
set_option maxRecDepth 20000 in
theorem gX10_manyOf_X10_canGo : GoodIn wsX10_manyOf (wsV RX10 164 RX10 yX10_canGo wsX10_canGo) := goodIn_app (goodIn_of _ (by decide +kernel)) ggX10_manyOf_X10_canGo
theorem dX10_manyOf_0 : decode cX10_manyOf 0 = .ok (.iconst 0, 1) := by decide +kernel
theorem dX10_manyOf_1 : decode cX10_manyOf 1 = .ok (.istore_n 2, 1) := by decide +kernel
theorem dX10_manyOf_2 : decode cX10_manyOf 2 = .ok (.iconst 0, 1) := by decide +kernel
theorem dX10_manyOf_3 : decode cX10_manyOf 3 = .ok (.istore_n 3, 1) := by decide +kernel
theorem dX10_manyOf_4 : decode cX10_manyOf 4 = .ok (.iload_n 3, 1) := by decide +kernel
theorem dX10_manyOf_5 : decode cX10_manyOf 5 = .ok (.aload_n 0, 1) := by decide +kernel
theorem dX10_manyOf_6 : decode cX10_manyOf 6 = .ok (.getfield 106, 3) := by decide +kernel
theorem dX10_manyOf_9 : decode cX10_manyOf 9 = .ok (.aload_n 0, 1) := by decide +kernel
theorem dX10_manyOf_10 : decode cX10_manyOf 10 = .ok (.getfield 106, 3) := by decide +kernel
theorem dX10_manyOf_13 : decode cX10_manyOf 13 = .ok (.imul, 1) := by decide +kernel
theorem dX10_manyOf_14 : decode cX10_manyOf 14 = .ok (.if_icmp .ge 37, 3) := by decide +kernel
theorem dX10_manyOf_17 : decode cX10_manyOf 17 = .ok (.iload_n 2, 1) := by decide +kernel
theorem dX10_manyOf_18 : decode cX10_manyOf 18 = .ok (.aload_n 0, 1) := by decide +kernel
theorem dX10_manyOf_19 : decode cX10_manyOf 19 = .ok (.iload_n 1, 1) := by decide +kernel
theorem dX10_manyOf_20 : decode cX10_manyOf 20 = .ok (.iload_n 3, 1) := by decide +kernel
theorem dX10_manyOf_21 : decode cX10_manyOf 21 = .ok (.aload_n 0, 1) := by decide +kernel
theorem dX10_manyOf_22 : decode cX10_manyOf 22 = .ok (.getfield 106, 3) := by decide +kernel
theorem dX10_manyOf_25 : decode cX10_manyOf 25 = .ok (.idiv, 1) := by decide +kernel
theorem dX10_manyOf_26 : decode cX10_manyOf 26 = .ok (.iload_n 3, 1) := by decide +kernel
theorem dX10_manyOf_27 : decode cX10_manyOf 27 = .ok (.aload_n 0, 1) := by decide +kernel
theorem dX10_manyOf_28 : decode cX10_manyOf 28 = .ok (.getfield 106, 3) := by decide +kernel
theorem dX10_manyOf_31 : decode cX10_manyOf 31 = .ok (.irem, 1) := by decide +kernel
theorem dX10_manyOf_32 : decode cX10_manyOf 32 = .ok (.invokevirtual 164, 3) := by decide +kernel
theorem dX10_manyOf_35 : decode cX10_manyOf 35 = .ok (.ifCond .eq 7, 3) := by decide +kernel
theorem dX10_manyOf_38 : decode cX10_manyOf 38 = .ok (.iconst 1, 1) := by decide +kernel
theorem dX10_manyOf_39 : decode cX10_manyOf 39 = .ok (.goto 4, 3) := by decide +kernel
theorem dX10_manyOf_42 : decode cX10_manyOf 42 = .ok (.iconst 0, 1) := by decide +kernel
theorem dX10_manyOf_43 : decode cX10_manyOf 43 = .ok (.iadd, 1) := by decide +kernel
theorem dX10_manyOf_44 : decode cX10_manyOf 44 = .ok (.istore_n 2, 1) := by decide +kernel
theorem dX10_manyOf_45 : decode cX10_manyOf 45 = .ok (.iinc 3 1, 3) := by decide +kernel
theorem dX10_manyOf_48 : decode cX10_manyOf 48 = .ok (.goto (-44), 3) := by decide +kernel
theorem dX10_manyOf_51 : decode cX10_manyOf 51 = .ok (.iload_n 2, 1) := by decide +kernel
theorem dX10_manyOf_52 : decode cX10_manyOf 52 = .ok (.ireturn, 1) := by decide +kernel
set_option maxRecDepth 20000 in
theorem ggX10_many_X10_lacks : GoodIn wsX10_many wsX10_lacks := goodIn_r _ [6, 7, 40, 41, 42, 43, 44, 45, 46, 47, 48, 49, 50, 51, 52, 53, 54, 55, 56, 57, 58, 59, 60, 61, 62, 63, 64, 65, 66, 67, 68, 69, 70, 71, 72, 73] (by decide +kernel) (by decide +kernel)
set_option maxRecDepth 20000 in
theorem gX10_many_X10_lacks : GoodIn wsX10_many (wsV RX10 129 RX10 yX10_lacks wsX10_lacks) := goodIn_app (goodIn_of _ (by decide +kernel)) ggX10_many_X10_lacks
set_option maxRecDepth 20000 in
theorem ggX10_many_X10_manyOf : GoodIn wsX10_many wsX10_manyOf := goodIn_r _ [11, 7, 12, 13, 14, 5, 15, 16, 17, 18, 19, 20, 21, 22, 23, 24, 25, 26, 27, 28, 29, 30, 31, 32, 33, 34, 35, 36, 37, 38, 39, 40, 41, 42, 43, 44, 45, 46, 47, 48, 49, 50, 51, 52, 53, 54, 55, 56, 57, 58, 59, 60, 61, 62, 63, 64, 65, 66, 67, 68, 69, 70, 71, 72, 73] (by decide +kernel) (by decide +kernel)
set_option maxRecDepth 20000 in
theorem gX10_many_X10_manyOf : GoodIn wsX10_many (wsV RX10 171 RX10 yX10_manyOf wsX10_manyOf) := goodIn_app (goodIn_of _ (by decide +kernel)) ggX10_many_X10_manyOf
theorem dX10_many_0 : decode cX10_many 0 = .ok (.aload_n 0, 1) := by decide +kernel
theorem dX10_many_1 : decode cX10_many 1 = .ok (.invokevirtual 129, 3) := by decide +kernel
theorem dX10_many_4 : decode cX10_many 4 = .ok (.ifCond .eq 8, 3) := by decide +kernel
theorem dX10_many_7 : decode cX10_many 7 = .ok (.bipush (-103), 2) := by decide +kernel
theorem dX10_many_9 : decode cX10_many 9 = .ok (.goto 11, 3) := by decide +kernel
theorem dX10_many_12 : decode cX10_many 12 = .ok (.aload_n 0, 1) := by decide +kernel
theorem dX10_many_13 : decode cX10_many 13 = .ok (.aload_n 0, 1) := by decide +kernel
theorem dX10_many_14 : decode cX10_many 14 = .ok (.getfield 116, 3) := by decide +kernel
theorem dX10_many_17 : decode cX10_many 17 = .ok (.invokevirtual 171, 3) := by decide +kernel
theorem dX10_many_20 : decode cX10_many 20 = .ok (.ireturn, 1) := by decide +kernel
set_option maxRecDepth 20000 in
theorem ggX10_nth_X10_lacks : GoodIn wsX10_nth wsX10_lacks := goodIn_r _ [8, 2, 40, 41, 42, 43, 44, 45, 46, 47, 48, 49, 50, 51, 52, 53, 54, 55, 56, 57, 58, 59, 60, 61, 62, 63, 64, 65, 66, 67, 68, 69, 70, 71, 72, 73] (by decide +kernel) (by decide +kernel)
set_option maxRecDepth 20000 in
theorem gX10_nth_X10_lacks : GoodIn wsX10_nth (wsV RX10 129 RX10 yX10_lacks wsX10_lacks) := goodIn_app (goodIn_of _ (by decide +kernel)) ggX10_nth_X10_lacks
set_option maxRecDepth 20000 in
theorem ggX10_nth_X10_in : GoodIn wsX10_nth wsX10_in := goodIn_r _ [11] (by decide +kernel) (by decide +kernel)
set_option maxRecDepth 20000 in
theorem gX10_nth_X10_in : GoodIn wsX10_nth (va_wsS RX10 92 yX10_in wsX10_in) := goodIn_app (goodIn_of _ (by decide +kernel)) ggX10_nth_X10_in
set_option maxRecDepth 20000 in
theorem ggX10_nth_X10_canGo : GoodIn wsX10_nth wsX10_canGo := goodIn_r _ [15, 16, 17, 18, 19, 7, 20, 21, 22, 23, 24, 25, 26, 27, 28, 29, 30, 31, 32, 33, 34, 2, 35, 36, 37, 38, 39, 40, 41, 42, 43, 44, 45, 46, 47, 48, 49, 50, 51, 52, 53, 54, 55, 56, 57, 58, 59, 60, 61, 62, 63, 64, 65, 66, 67, 68, 69, 70, 71, 72, 73] (by decide +kernel) (by decide +kernel)
set_option maxRecDepth 20000 in
theorem gX10_nth_X10_canGo : GoodIn wsX10_nth (wsV RX10 164 RX10 yX10_canGo wsX10_canGo) := goodIn_app (goodIn_of _ (by decide +kernel)) ggX10_nth_X10_canGo
theorem dX10_nth_0 : decode cX10_nth 0 = .ok (.aload_n 0, 1) := by decide +kernel
theorem dX10_nth_1 : decode cX10_nth 1 = .ok (.invokevirtual 129, 3) := by decide +kernel
theorem dX10_nth_4 : decode cX10_nth 4 = .ok (.ifCond .eq 6, 3) := by decide +kernel
theorem dX10_nth_7 : decode cX10_nth 7 = .ok (.bipush (-103), 2) := by decide +kernel
theorem dX10_nth_9 : decode cX10_nth 9 = .ok (.ireturn, 1) := by decide +kernel
theorem dX10_nth_10 : decode cX10_nth 10 = .ok (.iload_n 1, 1) := by decide +kernel
theorem dX10_nth_11 : decode cX10_nth 11 = .ok (.i2l, 1) := by decide +kernel
theorem dX10_nth_12 : decode cX10_nth 12 = .ok (.lconst 0, 1) := by decide +kernel
theorem dX10_nth_13 : decode cX10_nth 13 = .ok (.ldc2_w 174, 3) := by decide +kernel
theorem dX10_nth_16 : decode cX10_nth 16 = .ok (.invokestatic 92, 3) := by decide +kernel
theorem dX10_nth_19 : decode cX10_nth 19 = .ok (.ifCond .ne 6, 3) := by decide +kernel
theorem dX10_nth_22 : decode cX10_nth 22 = .ok (.bipush (-102), 2) := by decide +kernel
theorem dX10_nth_24 : decode cX10_nth 24 = .ok (.ireturn, 1) := by decide +kernel
theorem dX10_nth_25 : decode cX10_nth 25 = .ok (.iconst 0, 1) := by decide +kernel
theorem dX10_nth_26 : decode cX10_nth 26 = .ok (.istore_n 2, 1) := by decide +kernel
theorem dX10_nth_27 : decode cX10_nth 27 = .ok (.iconst 0, 1) := by decide +kernel
theorem dX10_nth_28 : decode cX10_nth 28 = .ok (.istore_n 3, 1) := by decide +kernel
theorem dX10_nth_29 : decode cX10_nth 29 = .ok (.iload_n 3, 1) := by decide +kernel
theorem dX10_nth_30 : decode cX10_nth 30 = .ok (.aload_n 0, 1) := by decide +kernel
theorem dX10_nth_31 : decode cX10_nth 31 = .ok (.getfield 106, 3) := by decide +kernel
theorem dX10_nth_34 : decode cX10_nth 34 = .ok (.aload_n 0, 1) := by decide +kernel
theorem dX10_nth_35 : decode cX10_nth 35 = .ok (.getfield 106, 3) := by decide +kernel
theorem dX10_nth_38 : decode cX10_nth 38 = .ok (.imul, 1) := by decide +kernel
theorem dX10_nth_39 : decode cX10_nth 39 = .ok (.if_icmp .ge 57, 3) := by decide +kernel
theorem dX10_nth_42 : decode cX10_nth 42 = .ok (.aload_n 0, 1) := by decide +kernel
theorem dX10_nth_43 : decode cX10_nth 43 = .ok (.aload_n 0, 1) := by decide +kernel
theorem dX10_nth_44 : decode cX10_nth 44 = .ok (.getfield 116, 3) := by decide +kernel
theorem dX10_nth_47 : decode cX10_nth 47 = .ok (.iload_n 3, 1) := by decide +kernel
theorem dX10_nth_48 : decode cX10_nth 48 = .ok (.aload_n 0, 1) := by decide +kernel
theorem dX10_nth_49 : decode cX10_nth 49 = .ok (.getfield 106, 3) := by decide +kernel
theorem dX10_nth_52 : decode cX10_nth 52 = .ok (.idiv, 1) := by decide +kernel
theorem dX10_nth_53 : decode cX10_nth 53 = .ok (.iload_n 3, 1) := by decide +kernel
theorem dX10_nth_54 : decode cX10_nth 54 = .ok (.aload_n 0, 1) := by decide +kernel
theorem dX10_nth_55 : decode cX10_nth 55 = .ok (.getfield 106, 3) := by decide +kernel
theorem dX10_nth_58 : decode cX10_nth 58 = .ok (.irem, 1) := by decide +kernel
theorem dX10_nth_59 : decode cX10_nth 59 = .ok (.invokevirtual 164, 3) := by decide +kernel
theorem dX10_nth_62 : decode cX10_nth 62 = .ok (.ifCond .eq 28, 3) := by decide +kernel
theorem dX10_nth_65 : decode cX10_nth 65 = .ok (.iload_n 2, 1) := by decide +kernel
theorem dX10_nth_66 : decode cX10_nth 66 = .ok (.iload_n 1, 1) := by decide +kernel
theorem dX10_nth_67 : decode cX10_nth 67 = .ok (.if_icmp .ne 20, 3) := by decide +kernel
theorem dX10_nth_70 : decode cX10_nth 70 = .ok (.bipush 16, 2) := by decide +kernel
theorem dX10_nth_72 : decode cX10_nth 72 = .ok (.iload_n 3, 1) := by decide +kernel
theorem dX10_nth_73 : decode cX10_nth 73 = .ok (.aload_n 0, 1) := by decide +kernel
theorem dX10_nth_74 : decode cX10_nth 74 = .ok (.getfield 106, 3) := by decide +kernel
theorem dX10_nth_77 : decode cX10_nth 77 = .ok (.idiv, 1) := by decide +kernel
theorem dX10_nth_78 : decode cX10_nth 78 = .ok (.imul, 1) := by decide +kernel
theorem dX10_nth_79 : decode cX10_nth 79 = .ok (.iload_n 3, 1) := by decide +kernel
theorem dX10_nth_80 : decode cX10_nth 80 = .ok (.aload_n 0, 1) := by decide +kernel
theorem dX10_nth_81 : decode cX10_nth 81 = .ok (.getfield 106, 3) := by decide +kernel
theorem dX10_nth_84 : decode cX10_nth 84 = .ok (.irem, 1) := by decide +kernel
theorem dX10_nth_85 : decode cX10_nth 85 = .ok (.iadd, 1) := by decide +kernel
theorem dX10_nth_86 : decode cX10_nth 86 = .ok (.ireturn, 1) := by decide +kernel
theorem dX10_nth_87 : decode cX10_nth 87 = .ok (.iinc 2 1, 3) := by decide +kernel
theorem dX10_nth_90 : decode cX10_nth 90 = .ok (.iinc 3 1, 3) := by decide +kernel
theorem dX10_nth_93 : decode cX10_nth 93 = .ok (.goto (-64), 3) := by decide +kernel
theorem dX10_nth_96 : decode cX10_nth 96 = .ok (.iconst (-1), 1) := by decide +kernel
theorem dX10_nth_97 : decode cX10_nth 97 = .ok (.ireturn, 1) := by decide +kernel
theorem dX10_come_0 : decode cX10_come 0 = .ok (.aload_n 0, 1) := by decide +kernel
theorem dX10_come_1 : decode cX10_come 1 = .ok (.getfield 23, 3) := by decide +kernel
theorem dX10_come_4 : decode cX10_come 4 = .ok (.iload_n 1, 1) := by decide +kernel
theorem dX10_come_5 : decode cX10_come 5 = .ok (.iaload, 1) := by decide +kernel
theorem dX10_come_6 : decode cX10_come 6 = .ok (.iconst 1, 1) := by decide +kernel
theorem dX10_come_7 : decode cX10_come 7 = .ok (.isub, 1) := by decide +kernel
theorem dX10_come_8 : decode cX10_come 8 = .ok (.istore_n 3, 1) := by decide +kernel
theorem dX10_come_9 : decode cX10_come 9 = .ok (.iload_n 3, 1) := by decide +kernel
theorem dX10_come_10 : decode cX10_come 10 = .ok (.ifCond .ge 80, 3) := by decide +kernel
theorem dX10_come_13 : decode cX10_come 13 = .ok (.aload_n 0, 1) := by decide +kernel
theorem dX10_come_14 : decode cX10_come 14 = .ok (.getfield 176, 3) := by decide +kernel
theorem dX10_come_17 : decode cX10_come 17 = .ok (.istore_n 3, 1) := by decide +kernel
theorem dX10_come_18 : decode cX10_come 18 = .ok (.aload_n 0, 1) := by decide +kernel
theorem dX10_come_19 : decode cX10_come 19 = .ok (.getfield 23, 3) := by decide +kernel
theorem dX10_come_22 : decode cX10_come 22 = .ok (.iload_n 1, 1) := by decide +kernel
theorem dX10_come_23 : decode cX10_come 23 = .ok (.iload_n 3, 1) := by decide +kernel
theorem dX10_come_24 : decode cX10_come 24 = .ok (.iconst 1, 1) := by decide +kernel
theorem dX10_come_25 : decode cX10_come 25 = .ok (.iadd, 1) := by decide +kernel
theorem dX10_come_26 : decode cX10_come 26 = .ok (.iastore, 1) := by decide +kernel
theorem dX10_come_27 : decode cX10_come 27 = .ok (.aload_n 0, 1) := by decide +kernel
theorem dX10_come_28 : decode cX10_come 28 = .ok (.getfield 26, 3) := by decide +kernel
theorem dX10_come_31 : decode cX10_come 31 = .ok (.iload_n 3, 1) := by decide +kernel
theorem dX10_come_32 : decode cX10_come 32 = .ok (.iload_n 1, 1) := by decide +kernel
theorem dX10_come_33 : decode cX10_come 33 = .ok (.iastore, 1) := by decide +kernel
theorem dX10_come_34 : decode cX10_come 34 = .ok (.aload_n 0, 1) := by decide +kernel
theorem dX10_come_35 : decode cX10_come 35 = .ok (.getfield 29, 3) := by decide +kernel
theorem dX10_come_38 : decode cX10_come 38 = .ok (.iload_n 3, 1) := by decide +kernel
theorem dX10_come_39 : decode cX10_come 39 = .ok (.iload_n 2, 1) := by decide +kernel
theorem dX10_come_40 : decode cX10_come 40 = .ok (.iconst (-1), 1) := by decide +kernel
theorem dX10_come_41 : decode cX10_come 41 = .ok (.if_icmp .ne 7, 3) := by decide +kernel
theorem dX10_come_44 : decode cX10_come 44 = .ok (.iconst 0, 1) := by decide +kernel
theorem dX10_come_45 : decode cX10_come 45 = .ok (.goto 11, 3) := by decide +kernel
theorem dX10_come_48 : decode cX10_come 48 = .ok (.aload_n 0, 1) := by decide +kernel
theorem dX10_come_49 : decode cX10_come 49 = .ok (.getfield 29, 3) := by decide +kernel
theorem dX10_come_52 : decode cX10_come 52 = .ok (.iload_n 2, 1) := by decide +kernel
theorem dX10_come_53 : decode cX10_come 53 = .ok (.iaload, 1) := by decide +kernel
theorem dX10_come_54 : decode cX10_come 54 = .ok (.iconst 1, 1) := by decide +kernel
theorem dX10_come_55 : decode cX10_come 55 = .ok (.iadd, 1) := by decide +kernel
theorem dX10_come_56 : decode cX10_come 56 = .ok (.iastore, 1) := by decide +kernel
theorem dX10_come_57 : decode cX10_come 57 = .ok (.aload_n 0, 1) := by decide +kernel
theorem dX10_come_58 : decode cX10_come 58 = .ok (.getfield 32, 3) := by decide +kernel
theorem dX10_come_61 : decode cX10_come 61 = .ok (.iload_n 3, 1) := by decide +kernel
theorem dX10_come_62 : decode cX10_come 62 = .ok (.iload_n 2, 1) := by decide +kernel
theorem dX10_come_63 : decode cX10_come 63 = .ok (.iconst (-1), 1) := by decide +kernel
theorem dX10_come_64 : decode cX10_come 64 = .ok (.if_icmp .ne 7, 3) := by decide +kernel
theorem dX10_come_67 : decode cX10_come 67 = .ok (.lconst 1, 1) := by decide +kernel
theorem dX10_come_68 : decode cX10_come 68 = .ok (.goto 4, 3) := by decide +kernel
theorem dX10_come_71 : decode cX10_come 71 = .ok (.lconst 0, 1) := by decide +kernel
theorem dX10_come_72 : decode cX10_come 72 = .ok (.lastore, 1) := by decide +kernel
theorem dX10_come_73 : decode cX10_come 73 = .ok (.aload_n 0, 1) := by decide +kernel
theorem dX10_come_74 : decode cX10_come 74 = .ok (.getfield 36, 3) := by decide +kernel
theorem dX10_come_77 : decode cX10_come 77 = .ok (.iload_n 3, 1) := by decide +kernel
theorem dX10_come_78 : decode cX10_come 78 = .ok (.iconst 0, 1) := by decide +kernel
theorem dX10_come_79 : decode cX10_come 79 = .ok (.iastore, 1) := by decide +kernel
theorem dX10_come_80 : decode cX10_come 80 = .ok (.aload_n 0, 1) := by decide +kernel
theorem dX10_come_81 : decode cX10_come 81 = .ok (.dup, 1) := by decide +kernel
theorem dX10_come_82 : decode cX10_come 82 = .ok (.getfield 176, 3) := by decide +kernel
theorem dX10_come_85 : decode cX10_come 85 = .ok (.iconst 1, 1) := by decide +kernel
theorem dX10_come_86 : decode cX10_come 86 = .ok (.iadd, 1) := by decide +kernel
theorem dX10_come_87 : decode cX10_come 87 = .ok (.putfield 176, 3) := by decide +kernel
theorem dX10_come_90 : decode cX10_come 90 = .ok (.iload_n 2, 1) := by decide +kernel
theorem dX10_come_91 : decode cX10_come 91 = .ok (.iconst (-1), 1) := by decide +kernel
theorem dX10_come_92 : decode cX10_come 92 = .ok (.if_icmp .eq 35, 3) := by decide +kernel
theorem dX10_come_95 : decode cX10_come 95 = .ok (.aload_n 0, 1) := by decide +kernel
theorem dX10_come_96 : decode cX10_come 96 = .ok (.getfield 29, 3) := by decide +kernel
theorem dX10_come_99 : decode cX10_come 99 = .ok (.iload_n 3, 1) := by decide +kernel
theorem dX10_come_100 : decode cX10_come 100 = .ok (.iaload, 1) := by decide +kernel
theorem dX10_come_101 : decode cX10_come 101 = .ok (.aload_n 0, 1) := by decide +kernel
theorem dX10_come_102 : decode cX10_come 102 = .ok (.getfield 29, 3) := by decide +kernel
theorem dX10_come_105 : decode cX10_come 105 = .ok (.iload_n 2, 1) := by decide +kernel
theorem dX10_come_106 : decode cX10_come 106 = .ok (.iaload, 1) := by decide +kernel
theorem dX10_come_107 : decode cX10_come 107 = .ok (.iconst 1, 1) := by decide +kernel
theorem dX10_come_108 : decode cX10_come 108 = .ok (.iadd, 1) := by decide +kernel
theorem dX10_come_109 : decode cX10_come 109 = .ok (.if_icmp .ne 18, 3) := by decide +kernel
theorem dX10_come_112 : decode cX10_come 112 = .ok (.aload_n 0, 1) := by decide +kernel
theorem dX10_come_113 : decode cX10_come 113 = .ok (.getfield 32, 3) := by decide +kernel
theorem dX10_come_116 : decode cX10_come 116 = .ok (.iload_n 3, 1) := by decide +kernel
theorem dX10_come_117 : decode cX10_come 117 = .ok (.dup2, 1) := by decide +kernel
theorem dX10_come_118 : decode cX10_come 118 = .ok (.laload, 1) := by decide +kernel
theorem dX10_come_119 : decode cX10_come 119 = .ok (.aload_n 0, 1) := by decide +kernel
theorem dX10_come_120 : decode cX10_come 120 = .ok (.getfield 32, 3) := by decide +kernel
theorem dX10_come_123 : decode cX10_come 123 = .ok (.iload_n 2, 1) := by decide +kernel
theorem dX10_come_124 : decode cX10_come 124 = .ok (.laload, 1) := by decide +kernel
theorem dX10_come_125 : decode cX10_come 125 = .ok (.ladd, 1) := by decide +kernel
theorem dX10_come_126 : decode cX10_come 126 = .ok (.lastore, 1) := by decide +kernel
theorem dX10_come_127 : decode cX10_come 127 = .ok (.return_, 1) := by decide +kernel
set_option maxRecDepth 20000 in
theorem ggX10_layRow_X10_come : GoodIn wsX10_layRow wsX10_come := goodIn_r _ [10, 2, 1, 3, 11, 12, 13, 45, 46, 47, 48, 49, 50, 51, 52, 53, 54, 55, 56, 57, 58, 59, 60, 61, 62, 63, 64, 65, 66, 67, 68, 69, 70, 71, 72, 73, 74, 75, 76, 77, 78] (by decide +kernel) (by decide +kernel)
set_option maxRecDepth 20000 in
theorem gX10_layRow_X10_come : GoodIn wsX10_layRow (wsV RX10 179 RX10 yX10_come wsX10_come) := goodIn_app (goodIn_of _ (by decide +kernel)) ggX10_layRow_X10_come
set_option maxRecDepth 20000 in
theorem ggX10_layRow_X10_canGo : GoodIn wsX10_layRow wsX10_canGo := goodIn_r _ [17, 18, 19, 20, 21, 9, 22, 23, 24, 25, 26, 27, 28, 29, 30, 31, 32, 33, 34, 35, 36, 5, 37, 38, 39, 40, 41, 45, 46, 47, 48, 49, 50, 51, 52, 53, 54, 55, 56, 57, 58, 59, 60, 61, 62, 63, 64, 65, 66, 67, 68, 69, 70, 71, 72, 73, 74, 75, 76, 77, 78] (by decide +kernel) (by decide +kernel)
set_option maxRecDepth 20000 in
theorem gX10_layRow_X10_canGo : GoodIn wsX10_layRow (wsV RX10 164 RX10 yX10_canGo wsX10_canGo) := goodIn_app (goodIn_of _ (by decide +kernel)) ggX10_layRow_X10_canGo
set_option maxRecDepth 20000 in
theorem ggX10_layRow_X10_moved : GoodIn wsX10_layRow wsX10_moved := goodIn_r _ [44] (by decide +kernel) (by decide +kernel)
set_option maxRecDepth 20000 in
theorem gX10_layRow_X10_moved : GoodIn wsX10_layRow (va_wsS RX10 167 yX10_moved wsX10_moved) := goodIn_app (goodIn_of _ (by decide +kernel)) ggX10_layRow_X10_moved
theorem dX10_layRow_0 : decode cX10_layRow 0 = .ok (.iconst 0, 1) := by decide +kernel
theorem dX10_layRow_1 : decode cX10_layRow 1 = .ok (.istore_n 1, 1) := by decide +kernel
theorem dX10_layRow_2 : decode cX10_layRow 2 = .ok (.iload_n 1, 1) := by decide +kernel
theorem dX10_layRow_3 : decode cX10_layRow 3 = .ok (.aload_n 0, 1) := by decide +kernel
theorem dX10_layRow_4 : decode cX10_layRow 4 = .ok (.getfield 176, 3) := by decide +kernel
theorem dX10_layRow_7 : decode cX10_layRow 7 = .ok (.if_icmp .ge 21, 3) := by decide +kernel
theorem dX10_layRow_10 : decode cX10_layRow 10 = .ok (.aload_n 0, 1) := by decide +kernel
theorem dX10_layRow_11 : decode cX10_layRow 11 = .ok (.getfield 23, 3) := by decide +kernel
theorem dX10_layRow_14 : decode cX10_layRow 14 = .ok (.aload_n 0, 1) := by decide +kernel
theorem dX10_layRow_15 : decode cX10_layRow 15 = .ok (.getfield 26, 3) := by decide +kernel
theorem dX10_layRow_18 : decode cX10_layRow 18 = .ok (.iload_n 1, 1) := by decide +kernel
theorem dX10_layRow_19 : decode cX10_layRow 19 = .ok (.iaload, 1) := by decide +kernel
theorem dX10_layRow_20 : decode cX10_layRow 20 = .ok (.iconst 0, 1) := by decide +kernel
theorem dX10_layRow_21 : decode cX10_layRow 21 = .ok (.iastore, 1) := by decide +kernel
theorem dX10_layRow_22 : decode cX10_layRow 22 = .ok (.iinc 1 1, 3) := by decide +kernel
theorem dX10_layRow_25 : decode cX10_layRow 25 = .ok (.goto (-23), 3) := by decide +kernel
theorem dX10_layRow_28 : decode cX10_layRow 28 = .ok (.aload_n 0, 1) := by decide +kernel
theorem dX10_layRow_29 : decode cX10_layRow 29 = .ok (.iconst 0, 1) := by decide +kernel
theorem dX10_layRow_30 : decode cX10_layRow 30 = .ok (.putfield 176, 3) := by decide +kernel
theorem dX10_layRow_33 : decode cX10_layRow 33 = .ok (.aload_n 0, 1) := by decide +kernel
theorem dX10_layRow_34 : decode cX10_layRow 34 = .ok (.aload_n 0, 1) := by decide +kernel
theorem dX10_layRow_35 : decode cX10_layRow 35 = .ok (.getfield 116, 3) := by decide +kernel
theorem dX10_layRow_38 : decode cX10_layRow 38 = .ok (.iconst (-1), 1) := by decide +kernel
theorem dX10_layRow_39 : decode cX10_layRow 39 = .ok (.invokevirtual 179, 3) := by decide +kernel
theorem dX10_layRow_42 : decode cX10_layRow 42 = .ok (.iconst 0, 1) := by decide +kernel
theorem dX10_layRow_43 : decode cX10_layRow 43 = .ok (.istore_n 1, 1) := by decide +kernel
theorem dX10_layRow_44 : decode cX10_layRow 44 = .ok (.iload_n 1, 1) := by decide +kernel
theorem dX10_layRow_45 : decode cX10_layRow 45 = .ok (.aload_n 0, 1) := by decide +kernel
theorem dX10_layRow_46 : decode cX10_layRow 46 = .ok (.getfield 176, 3) := by decide +kernel
