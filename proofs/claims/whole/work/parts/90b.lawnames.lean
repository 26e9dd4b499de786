set_option maxRecDepth 20000 in
theorem lwin_wsL_law_r26 : ∀ w ∈ wsL_law_r26, w ∈ lw_tbl := fun w h => (goodIn_r (big := lw_tbl) wsL_law_r26 [659, 660, 661, 662, 663, 664, 665, 666, 1109, 1110, 1111, 1112, 1113, 1114, 1116, 44, 1117, 667, 668, 669, 670, 671, 672, 673] (by decide +kernel) (by decide +kernel) w h).1
set_option maxRecDepth 20000 in
theorem lwin_wsL_law_r27 : ∀ w ∈ wsL_law_r27, w ∈ lw_tbl := fun w h => (goodIn_r (big := lw_tbl) wsL_law_r27 [674, 1118, 1119, 1120, 1121, 1122, 1124, 45, 1125, 675, 676, 677, 678, 225, 227, 229, 1126, 1127, 1128, 1129, 1130, 1131, 1133, 46] (by decide +kernel) (by decide +kernel) w h).1
set_option maxRecDepth 20000 in
theorem lwin_wsL_law_r28 : ∀ w ∈ wsL_law_r28, w ∈ lw_tbl := fun w h => (goodIn_r (big := lw_tbl) wsL_law_r28 [1134, 679, 680, 681, 682, 683, 685, 15, 686, 148, 687, 688, 689, 690, 272, 220, 222, 696, 691, 692, 694, 16, 695, 214] (by decide +kernel) (by decide +kernel) w h).1
set_option maxRecDepth 20000 in
theorem lwin_wsL_law_r29 : ∀ w ∈ wsL_law_r29, w ∈ lw_tbl := fun w h => (goodIn_r (big := lw_tbl) wsL_law_r29 [697, 698, 700, 17, 701, 143, 704, 705, 706, 703, 707, 709, 18, 710, 711, 712, 714, 715, 716, 717, 718, 719, 720, 721] (by decide +kernel) (by decide +kernel) w h).1
set_option maxRecDepth 20000 in
theorem lwin_wsL_law_r30 : ∀ w ∈ wsL_law_r30, w ∈ lw_tbl := fun w h => (goodIn_r (big := lw_tbl) wsL_law_r30 [722, 723, 724, 725, 726, 727, 728, 729, 1135, 1136, 1137, 1138, 1139, 1141, 47, 1142, 1143, 1145, 48, 1146, 1147, 1149, 49, 1150] (by decide +kernel) (by decide +kernel) w h).1
set_option maxRecDepth 20000 in
theorem lwin_wsL_law_r31 : ∀ w ∈ wsL_law_r31, w ∈ lw_tbl := fun w h => (goodIn_r (big := lw_tbl) wsL_law_r31 [730, 731, 732, 733, 734, 735, 736, 737, 738, 739, 741, 19, 742, 1151, 1152, 1153, 1154, 1155, 1157, 50, 1158, 743, 744, 745] (by decide +kernel) (by decide +kernel) w h).1
set_option maxRecDepth 20000 in
theorem lwin_wsL_law_r32 : ∀ w ∈ wsL_law_r32, w ∈ lw_tbl := fun w h => (goodIn_r (big := lw_tbl) wsL_law_r32 [746, 747, 748, 749, 750, 751, 752, 753, 189, 754, 756, 757, 759, 20, 760, 223, 213, 761, 763, 21, 764, 144, 765, 767] (by decide +kernel) (by decide +kernel) w h).1
set_option maxRecDepth 20000 in
theorem lwin_wsL_law_r33 : ∀ w ∈ wsL_law_r33, w ∈ lw_tbl := fun w h => (goodIn_r (big := lw_tbl) wsL_law_r33 [768, 769, 770, 772, 773, 774, 1159, 1160, 1161, 1162, 1163, 1164, 1166, 51, 1167, 1168, 1169, 1170, 775, 776, 777, 778, 307, 309] (by decide +kernel) (by decide +kernel) w h).1
set_option maxRecDepth 20000 in
theorem lwin_wsL_law_r34 : ∀ w ∈ wsL_law_r34, w ∈ lw_tbl := fun w h => (goodIn_r (big := lw_tbl) wsL_law_r34 [305, 779, 780, 781, 782, 304, 306, 308, 790, 784, 785, 786, 787, 788, 789, 791, 792, 793, 794, 1171, 1172, 1173, 1174, 1175] (by decide +kernel) (by decide +kernel) w h).1
set_option maxRecDepth 20000 in
theorem lwin_wsL_law_r35 : ∀ w ∈ wsL_law_r35, w ∈ lw_tbl := fun w h => (goodIn_r (big := lw_tbl) wsL_law_r35 [1176, 887, 1177, 1179, 52, 1180, 1181, 1182, 1183, 1184, 795, 796, 797, 798, 799, 800, 801, 802, 1185, 1186, 1187, 1188, 1189, 1191] (by decide +kernel) (by decide +kernel) w h).1
set_option maxRecDepth 20000 in
theorem lwin_wsL_law_r36 : ∀ w ∈ wsL_law_r36, w ∈ lw_tbl := fun w h => (goodIn_r (big := lw_tbl) wsL_law_r36 [53, 1192, 803, 804, 805, 806, 807, 808, 809, 810, 811, 813, 22, 814, 815, 816, 1193, 1194, 1195, 1196, 817, 818, 819, 820] (by decide +kernel) (by decide +kernel) w h).1
set_option maxRecDepth 20000 in
theorem lwin_wsL_law_r37 : ∀ w ∈ wsL_law_r37, w ∈ lw_tbl := fun w h => (goodIn_r (big := lw_tbl) wsL_law_r37 [821, 822, 823, 824, 825, 827, 826, 72, 1197, 1198, 1199, 1200, 889, 890, 828, 829, 830, 831, 1201, 1202, 1203, 1204, 832, 833] (by decide +kernel) (by decide +kernel) w h).1
set_option maxRecDepth 20000 in
theorem lwin_wsL_law_r38 : ∀ w ∈ wsL_law_r38, w ∈ lw_tbl := fun w h => (goodIn_r (big := lw_tbl) wsL_law_r38 [834, 835, 1205, 1206, 1207, 1208, 1209, 1211, 54, 1212, 836, 837, 838, 839, 840, 841, 842, 843, 845, 23, 846, 847, 848, 849] (by decide +kernel) (by decide +kernel) w h).1
set_option maxRecDepth 20000 in
theorem lwin_wsL_law_r39 : ∀ w ∈ wsL_law_r39, w ∈ lw_tbl := fun w h => (goodIn_r (big := lw_tbl) wsL_law_r39 [850, 851, 1213, 1214, 1215, 1216, 1217, 892, 1218, 1220, 55, 1221, 1222, 1223, 1225, 56, 1226] (by decide +kernel) (by decide +kernel) w h).1
set_option maxRecDepth 20000 in
theorem lwin_wsX90 : ∀ w ∈ wsX90, w ∈ lw_tbl := fun w h => (goodIn_r (big := lw_tbl) wsX90 [364, 366, 368, 370, 372, 374, 376, 378, 380, 382, 384, 386, 388, 390] (by decide +kernel) (by decide +kernel) w h).1
set_option maxRecDepth 20000 in
theorem lwin_wsX100 : ∀ w ∈ wsX100, w ∈ lw_tbl := fun w h => (goodIn_r (big := lw_tbl) wsX100 [893, 895, 897, 899, 901, 903, 905, 907, 909, 911, 913, 915, 917, 919, 921, 923, 925, 927, 929, 931, 933, 935, 937, 939, 941, 943, 945, 947, 949, 951, 953, 955, 957, 959] (by decide +kernel) (by decide +kernel) w h).1
set_option maxRecDepth 20000 in
theorem lwin_wsX50 : ∀ w ∈ wsX50, w ∈ lw_tbl := fun w h => (goodIn_r (big := lw_tbl) wsX50 [91, 93] (by decide +kernel) (by decide +kernel) w h).1
set_option maxRecDepth 20000 in
theorem lwin_wsX70 : ∀ w ∈ wsX70, w ∈ lw_tbl := fun w h => (goodIn_r (big := lw_tbl) wsX70 [118, 120, 122, 124, 126, 128, 130] (by decide +kernel) (by decide +kernel) w h).1
set_option maxRecDepth 20000 in
theorem lwin_wsX60 : ∀ w ∈ wsX60, w ∈ lw_tbl := fun w h => (goodIn_r (big := lw_tbl) wsX60 [153, 155, 157, 159, 161, 163] (by decide +kernel) (by decide +kernel) w h).1
set_option maxRecDepth 20000 in
theorem lwin_wsX30 : ∀ w ∈ wsX30, w ∈ lw_tbl := fun w h => (goodIn_r (big := lw_tbl) wsX30 [174, 176] (by decide +kernel) (by decide +kernel) w h).1
set_option maxRecDepth 20000 in
theorem lwin_wsX40 : ∀ w ∈ wsX40, w ∈ lw_tbl := fun w h => (goodIn_r (big := lw_tbl) wsX40 [192, 194, 196, 198, 200] (by decide +kernel) (by decide +kernel) w h).1
set_option maxRecDepth 20000 in
theorem lwin_wsX80 : ∀ w ∈ wsX80, w ∈ lw_tbl := fun w h => (goodIn_r (big := lw_tbl) wsX80 [230, 232, 234, 236, 238, 240, 242, 244, 246, 248, 250, 252, 254] (by decide +kernel) (by decide +kernel) w h).1
set_option maxRecDepth 20000 in
theorem lwin_wsX20 : ∀ w ∈ wsX20, w ∈ lw_tbl := fun w h => (goodIn_r (big := lw_tbl) wsX20 [273, 275, 277, 279, 281, 283, 285, 287, 289] (by decide +kernel) (by decide +kernel) w h).1
set_option maxRecDepth 20000 in
theorem lwin_wsX00 : ∀ w ∈ wsX00, w ∈ lw_tbl := fun w h => (goodIn_r (big := lw_tbl) wsX00 [310, 312, 314, 316, 318, 320, 322, 324, 326] (by decide +kernel) (by decide +kernel) w h).1
set_option maxRecDepth 20000 in
theorem lwin_wsX10 : ∀ w ∈ wsX10, w ∈ lw_tbl := fun w h => (goodIn_r (big := lw_tbl) wsX10 [341, 343, 345, 347] (by decide +kernel) (by decide +kernel) w h).1
def wsL_law : List Cond := (wsL_law_r1 ++ (wsL_law_r2 ++ (wsL_law_r3 ++ (wsL_law_r4 ++ (wsL_law_r5 ++ (wsL_law_r6 ++ (wsL_law_r7 ++ (wsL_law_r8 ++ (wsL_law_r9 ++ (wsL_law_r10 ++ (wsL_law_r11 ++ (wsL_law_r12 ++ (wsL_law_r13 ++ (wsL_law_r14 ++ (wsL_law_r15 ++ (wsL_law_r16 ++ (wsL_law_r17 ++ (wsL_law_r18 ++ (wsL_law_r19 ++ (wsL_law_r20 ++ (wsL_law_r21 ++ (wsL_law_r22 ++ (wsL_law_r23 ++ (wsL_law_r24 ++ (wsL_law_r25 ++ (wsL_law_r26 ++ (wsL_law_r27 ++ (wsL_law_r28 ++ (wsL_law_r29 ++ (wsL_law_r30 ++ (wsL_law_r31 ++ (wsL_law_r32 ++ (wsL_law_r33 ++ (wsL_law_r34 ++ (wsL_law_r35 ++ (wsL_law_r36 ++ (wsL_law_r37 ++ (wsL_law_r38 ++ wsL_law_r39)))))))))))))))))))))))))))))))))))))) ++ wsX90 ++ wsX100 ++ wsX50 ++ wsX70 ++ wsX60 ++ wsX30 ++ wsX40 ++ wsX80 ++ wsX20 ++ wsX00 ++ wsX10 ++ ([] : List Cond)
theorem wsL_law_in : ∀ w ∈ wsL_law, w ∈ lw_tbl := (List.forall_mem_append.mpr ⟨(List.forall_mem_append.mpr ⟨(List.forall_mem_append.mpr ⟨(List.forall_mem_append.mpr ⟨(List.forall_mem_append.mpr ⟨(List.forall_mem_append.mpr ⟨(List.forall_mem_append.mpr ⟨(List.forall_mem_append.mpr ⟨(List.forall_mem_append.mpr ⟨(List.forall_mem_append.mpr ⟨(List.forall_mem_append.mpr ⟨(List.forall_mem_append.mpr ⟨(List.forall_mem_append.mpr ⟨lwin_wsL_law_r1, List.forall_mem_append.mpr ⟨lwin_wsL_law_r2, List.forall_mem_append.mpr ⟨lwin_wsL_law_r3, List.forall_mem_append.mpr ⟨lwin_wsL_law_r4, List.forall_mem_append.mpr ⟨lwin_wsL_law_r5, List.forall_mem_append.mpr ⟨lwin_wsL_law_r6, List.forall_mem_append.mpr ⟨lwin_wsL_law_r7, List.forall_mem_append.mpr ⟨lwin_wsL_law_r8, List.forall_mem_append.mpr ⟨lwin_wsL_law_r9, List.forall_mem_append.mpr ⟨lwin_wsL_law_r10, List.forall_mem_append.mpr ⟨lwin_wsL_law_r11, List.forall_mem_append.mpr ⟨lwin_wsL_law_r12, List.forall_mem_append.mpr ⟨lwin_wsL_law_r13, List.forall_mem_append.mpr ⟨lwin_wsL_law_r14, List.forall_mem_append.mpr ⟨lwin_wsL_law_r15, List.forall_mem_append.mpr ⟨lwin_wsL_law_r16, List.forall_mem_append.mpr ⟨lwin_wsL_law_r17, List.forall_mem_append.mpr ⟨lwin_wsL_law_r18, List.forall_mem_append.mpr ⟨lwin_wsL_law_r19, List.forall_mem_append.mpr ⟨lwin_wsL_law_r20, List.forall_mem_append.mpr ⟨lwin_wsL_law_r21, List.forall_mem_append.mpr ⟨lwin_wsL_law_r22, List.forall_mem_append.mpr ⟨lwin_wsL_law_r23, List.forall_mem_append.mpr ⟨lwin_wsL_law_r24, List.forall_mem_append.mpr ⟨lwin_wsL_law_r25, List.forall_mem_append.mpr ⟨lwin_wsL_law_r26, List.forall_mem_append.mpr ⟨lwin_wsL_law_r27, List.forall_mem_append.mpr ⟨lwin_wsL_law_r28, List.forall_mem_append.mpr ⟨lwin_wsL_law_r29, List.forall_mem_append.mpr ⟨lwin_wsL_law_r30, List.forall_mem_append.mpr ⟨lwin_wsL_law_r31, List.forall_mem_append.mpr ⟨lwin_wsL_law_r32, List.forall_mem_append.mpr ⟨lwin_wsL_law_r33, List.forall_mem_append.mpr ⟨lwin_wsL_law_r34, List.forall_mem_append.mpr ⟨lwin_wsL_law_r35, List.forall_mem_append.mpr ⟨lwin_wsL_law_r36, List.forall_mem_append.mpr ⟨lwin_wsL_law_r37, List.forall_mem_append.mpr ⟨lwin_wsL_law_r38, lwin_wsL_law_r39⟩⟩⟩⟩⟩⟩⟩⟩⟩⟩⟩⟩⟩⟩⟩⟩⟩⟩⟩⟩⟩⟩⟩⟩⟩⟩⟩⟩⟩⟩⟩⟩⟩⟩⟩⟩⟩⟩), lwin_wsX90⟩), lwin_wsX100⟩), lwin_wsX50⟩), lwin_wsX70⟩), lwin_wsX60⟩), lwin_wsX30⟩), lwin_wsX40⟩), lwin_wsX80⟩), lwin_wsX20⟩), lwin_wsX00⟩), lwin_wsX10⟩), fun _ h => absurd h List.not_mem_nil⟩)
