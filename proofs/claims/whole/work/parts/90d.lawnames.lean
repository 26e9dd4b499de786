set_option maxRecDepth 20000 in
theorem ggL_law_X9_blank : GoodIn wsL_law wsX9_blank := goodIn_r _ [158, 16, 137, 159, 160, 161, 15, 162, 148, 929, 930, 931, 932, 933, 934, 935, 936, 937, 938, 939, 940, 941, 942, 977, 978] (by decide +kernel) (by decide +kernel)
set_option maxRecDepth 20000 in
theorem gL_law_X9_blank : GoodIn wsL_law (wsV RL 20 RX9 yX9_blank wsX9_blank) := goodIn_app (goodIn_of _ (by decide +kernel)) ggL_law_X9_blank
set_option maxRecDepth 20000 in
theorem ggL_law_X10_blank : GoodIn wsL_law wsX10_blank := goodIn_r _ [166, 154, 943, 944, 945, 946, 947, 948, 949, 950, 951, 952, 953, 954, 955, 956, 957, 958, 959, 960, 961, 962, 963, 964, 965, 966, 967, 968, 969, 970, 971, 972, 973, 974, 975, 976] (by decide +kernel) (by decide +kernel)
set_option maxRecDepth 20000 in
theorem gL_law_X10_blank : GoodIn wsL_law (wsV RL 24 RX10 yX10_blank wsX10_blank) := goodIn_app (goodIn_of _ (by decide +kernel)) ggL_law_X10_blank
set_option maxRecDepth 20000 in
theorem ggL_law_X9_fault : GoodIn wsL_law wsX9_fault := goodIn_r _ [170, 20, 16, 171, 172, 173, 174, 19, 175, 176, 177, 178, 179, 180, 181, 182, 183, 184, 185, 186, 187, 188, 189, 190, 15, 191, 148, 54, 192, 193, 194, 195, 196, 197, 198, 199, 200, 2, 201, 202, 203, 204, 205, 929, 930, 931, 932, 933, 934, 935, 936, 937, 938, 939, 940, 941, 942, 979, 980, 981, 982, 983, 984, 985, 977, 978] (by decide +kernel) (by decide +kernel)
set_option maxRecDepth 20000 in
theorem gL_law_X9_fault : GoodIn wsL_law (wsV RL 25 RX9 yX9_fault wsX9_fault) := goodIn_app (goodIn_of _ (by decide +kernel)) ggL_law_X9_fault
set_option maxRecDepth 20000 in
theorem ggL_law_X10_fault : GoodIn wsL_law wsX10_fault := goodIn_r _ [209, 210, 211, 212, 5, 213, 214, 154, 118, 215, 216, 217, 218, 219, 220, 221, 222, 119, 223, 224, 225, 226, 227, 228, 229, 230, 231, 232, 233, 234, 235, 236, 237, 238, 943, 944, 945, 946, 947, 948, 949, 950, 951, 952, 953, 954, 955, 956, 957, 958, 959, 960, 961, 962, 963, 964, 965, 966, 967, 968, 969, 970, 971, 972, 973, 974, 975, 976] (by decide +kernel) (by decide +kernel)
set_option maxRecDepth 20000 in
theorem gL_law_X10_fault : GoodIn wsL_law (wsV RL 28 RX10 yX10_fault wsX10_fault) := goodIn_app (goodIn_of _ (by decide +kernel)) ggL_law_X10_fault
set_option maxRecDepth 20000 in
theorem ggL_law_X9_stones : GoodIn wsL_law wsX9_stones := goodIn_r _ [242, 20, 16, 243, 24, 48, 244, 245, 32, 246, 36, 247, 248, 249, 172, 173, 174, 19, 175, 176, 177, 178, 179, 180, 181, 182, 183, 184, 185, 186, 187, 188, 189, 190, 15, 191, 148, 54, 192, 193, 194, 195, 196, 197, 198, 199, 200, 2, 201, 202, 203, 204, 205, 250, 251, 252, 23, 253, 254, 255, 256, 257, 258, 259, 260, 261, 61, 62, 262, 263, 264, 265, 266, 267, 268, 269, 270, 271, 272, 273, 274, 275, 47, 276, 277, 278, 279, 280, 281, 31, 282, 283, 284, 285, 286, 287, 74, 288, 289, 290, 291, 292, 293, 294, 295, 73, 296, 297, 298, 299, 300, 301, 302, 303, 304, 305, 306, 307, 72, 308, 309, 310, 311, 35, 312, 313, 159, 160, 161, 162, 929, 930, 931, 932, 933, 934, 935, 936, 937, 938, 939, 940, 941, 942, 979, 980, 981, 982, 983, 984, 985, 986, 987, 988, 989, 990, 991, 1030, 1031, 1032, 1033, 977, 978, 994, 995, 996, 997, 998, 999, 1000, 1001, 1002, 1003, 1004, 1005, 1006, 1007, 1008, 1009, 1010, 1011] (by decide +kernel) (by decide +kernel)
set_option maxRecDepth 20000 in
theorem gL_law_X9_stones : GoodIn wsL_law (wsV RL 29 RX9 yX9_stones wsX9_stones) := goodIn_app (goodIn_of _ (by decide +kernel)) ggL_law_X9_stones
set_option maxRecDepth 20000 in
theorem ggL_law_X10_stones : GoodIn wsL_law wsX10_stones := goodIn_r _ [317, 154, 220, 219, 214, 222, 318, 319, 227, 320, 228, 321, 120, 119, 221, 322, 132, 323, 324, 210, 211, 212, 5, 213, 118, 215, 216, 217, 218, 223, 224, 225, 226, 229, 230, 231, 232, 233, 234, 235, 236, 237, 238, 943, 944, 945, 946, 947, 948, 949, 950, 951, 952, 953, 954, 955, 956, 957, 958, 959, 960, 961, 962, 963, 964, 965, 966, 967, 968, 969, 970, 971, 972, 973, 974, 975, 976] (by decide +kernel) (by decide +kernel)
set_option maxRecDepth 20000 in
theorem gL_law_X10_stones : GoodIn wsL_law (wsV RL 32 RX10 yX10_stones wsX10_stones) := goodIn_app (goodIn_of _ (by decide +kernel)) ggL_law_X10_stones
set_option maxRecDepth 20000 in
theorem ggL_law_X9_aim : GoodIn wsL_law wsX9_aim := goodIn_r _ [328, 16, 24, 245, 329, 248, 330, 331, 332, 2, 333, 334, 335, 336, 337, 137, 48, 246, 338, 189, 190, 15, 191, 148, 54, 339, 200, 201, 268, 269, 270, 271, 272, 340, 341, 342, 343, 299, 300, 159, 160, 161, 162, 344, 345, 346, 929, 930, 931, 932, 933, 934, 935, 936, 937, 938, 939, 940, 941, 942, 986, 987, 988, 989, 990, 991, 977, 978, 1030, 1031, 1032, 1033] (by decide +kernel) (by decide +kernel)
set_option maxRecDepth 20000 in
theorem gL_law_X9_aim : GoodIn wsL_law (wsV RL 33 RX9 yX9_aim wsX9_aim) := goodIn_app (goodIn_of _ (by decide +kernel)) ggL_law_X9_aim
set_option maxRecDepth 20000 in
theorem ggL_law_X10_aim : GoodIn wsL_law wsX10_aim := goodIn_r _ [350, 154, 319, 118, 322, 132, 351, 352, 353, 5, 354, 233, 234, 235, 355, 356, 357, 358, 359, 360, 361, 362, 943, 944, 945, 946, 947, 948, 949, 950, 951, 952, 953, 954, 955, 956, 957, 958, 959, 960, 961, 962, 963, 964, 965, 966, 967, 968, 969, 970, 971, 972, 973, 974, 975, 976] (by decide +kernel) (by decide +kernel)
set_option maxRecDepth 20000 in
theorem gL_law_X10_aim : GoodIn wsL_law (wsV RL 36 RX10 yX10_aim wsX10_aim) := goodIn_app (goodIn_of _ (by decide +kernel)) ggL_law_X10_aim
set_option maxRecDepth 20000 in
theorem ggL_law_X9_stone : GoodIn wsL_law wsX9_stone := goodIn_r _ [366, 48, 246, 24, 248, 329, 367, 368, 369, 2, 370, 245, 371, 372, 373, 343, 299, 300, 374, 375, 376, 23, 377, 61, 929, 930, 931, 932, 933, 934, 935, 936, 937, 938, 939, 940, 941, 942, 1030, 1031, 1032, 1033, 986, 987, 988, 989, 990, 991] (by decide +kernel) (by decide +kernel)
set_option maxRecDepth 20000 in
theorem gL_law_X9_stone : GoodIn wsL_law (wsV RL 37 RX9 yX9_stone wsX9_stone) := goodIn_app (goodIn_of _ (by decide +kernel)) ggL_law_X9_stone
set_option maxRecDepth 20000 in
theorem ggL_law_X10_stone : GoodIn wsL_law wsX10_stone := goodIn_r _ [381, 382, 383, 384, 5, 385, 319, 236, 237, 238, 386, 387, 388, 389, 322, 132, 390, 391, 392, 393, 394, 395, 396, 397, 398, 399, 400, 318, 120, 943, 944, 945, 946, 947, 948, 949, 950, 951, 952, 953, 954, 955, 956, 957, 958, 959, 960, 961, 962, 963, 964, 965, 966, 967, 968, 969, 970, 971, 972, 973, 974, 975, 976] (by decide +kernel) (by decide +kernel)
set_option maxRecDepth 20000 in
theorem gL_law_X10_stone : GoodIn wsL_law (wsV RL 41 RX10 yX10_stone wsX10_stone) := goodIn_app (goodIn_of _ (by decide +kernel)) ggL_law_X10_stone
set_option maxRecDepth 20000 in
theorem ggL_law_X9_as : GoodIn wsL_law wsX9_as := goodIn_r _ [404, 48, 246, 367, 368, 369, 2, 370, 24, 245, 343, 299, 300, 405, 406, 407, 929, 930, 931, 932, 933, 934, 935, 936, 937, 938, 939, 940, 941, 942, 1030, 1031, 1032, 1033, 986, 987, 988, 989, 990, 991] (by decide +kernel) (by decide +kernel)
set_option maxRecDepth 20000 in
theorem gL_law_X9_as : GoodIn wsL_law (wsV RL 42 RX9 yX9_as wsX9_as) := goodIn_app (goodIn_of _ (by decide +kernel)) ggL_law_X9_as
set_option maxRecDepth 20000 in
theorem ggL_law_X10_as : GoodIn wsL_law wsX10_as := goodIn_r _ [411, 412, 322, 382, 383, 384, 5, 385, 319, 236, 237, 238, 390, 391, 392, 393, 943, 944, 945, 946, 947, 948, 949, 950, 951, 952, 953, 954, 955, 956, 957, 958, 959, 960, 961, 962, 963, 964, 965, 966, 967, 968, 969, 970, 971, 972, 973, 974, 975, 976] (by decide +kernel) (by decide +kernel)
set_option maxRecDepth 20000 in
theorem gL_law_X10_as : GoodIn wsL_law (wsV RL 45 RX10 yX10_as wsX10_as) := goodIn_app (goodIn_of _ (by decide +kernel)) ggL_law_X10_as
set_option maxRecDepth 20000 in
theorem ggL_law_X9_can : GoodIn wsL_law wsX9_can := goodIn_r _ [416, 28, 48, 246, 367, 368, 369, 2, 370, 24, 245, 417, 418, 419, 27, 420, 67, 68, 421, 422, 289, 290, 291, 299, 300, 423, 424, 425, 426, 427, 428, 429, 375, 376, 23, 377, 61, 430, 431, 432, 433, 434, 435, 436, 437, 438, 439, 440, 441, 442, 443, 444, 445, 929, 930, 931, 932, 933, 934, 935, 936, 937, 938, 939, 940, 941, 942, 1030, 1031, 1032, 1033, 986, 987, 988, 989, 990, 991, 992, 993] (by decide +kernel) (by decide +kernel)
set_option maxRecDepth 20000 in
theorem gL_law_X9_can : GoodIn wsL_law (wsV RL 46 RX9 yX9_can wsX9_can) := goodIn_app (goodIn_of _ (by decide +kernel)) ggL_law_X9_can
set_option maxRecDepth 20000 in
theorem ggL_law_X10_can : GoodIn wsL_law wsX10_can := goodIn_r _ [449, 322, 382, 383, 384, 5, 385, 319, 236, 237, 238, 450, 451, 452, 453, 321, 390, 391, 392, 393, 454, 455, 456, 457, 458, 459, 460, 461, 397, 398, 399, 400, 318, 120, 462, 463, 464, 465, 320, 943, 944, 945, 946, 947, 948, 949, 950, 951, 952, 953, 954, 955, 956, 957, 958, 959, 960, 961, 962, 963, 964, 965, 966, 967, 968, 969, 970, 971, 972, 973, 974, 975, 976] (by decide +kernel) (by decide +kernel)
set_option maxRecDepth 20000 in
theorem gL_law_X10_can : GoodIn wsL_law (wsV RL 49 RX10 yX10_can wsX10_can) := goodIn_app (goodIn_of _ (by decide +kernel)) ggL_law_X10_can
set_option maxRecDepth 20000 in
theorem ggL_law_X9_move : GoodIn wsL_law wsX9_move := goodIn_r _ [469, 28, 48, 246, 470, 367, 368, 369, 2, 370, 24, 245, 417, 418, 419, 27, 420, 67, 68, 421, 422, 289, 290, 291, 299, 300, 423, 424, 425, 426, 427, 428, 429, 375, 376, 23, 377, 61, 430, 431, 432, 433, 434, 435, 436, 437, 438, 439, 440, 441, 442, 443, 444, 445, 471, 472, 473, 47, 474, 277, 112, 113, 278, 475, 476, 343, 929, 930, 931, 932, 933, 934, 935, 936, 937, 938, 939, 940, 941, 942, 1030, 1031, 1032, 1033, 986, 987, 988, 989, 990, 991, 992, 993] (by decide +kernel) (by decide +kernel)
set_option maxRecDepth 20000 in
theorem gL_law_X9_move : GoodIn wsL_law (wsV RL 50 RX9 yX9_move wsX9_move) := goodIn_app (goodIn_of _ (by decide +kernel)) ggL_law_X9_move
set_option maxRecDepth 20000 in
theorem ggL_law_X10_move : GoodIn wsL_law wsX10_move := goodIn_r _ [480, 322, 323, 121, 382, 383, 384, 5, 385, 319, 236, 237, 238, 450, 451, 452, 453, 321, 390, 391, 392, 393, 454, 455, 456, 457, 458, 459, 460, 461, 397, 398, 399, 400, 318, 120, 462, 463, 464, 465, 320, 481, 482, 483, 943, 944, 945, 946, 947, 948, 949, 950, 951, 952, 953, 954, 955, 956, 957, 958, 959, 960, 961, 962, 963, 964, 965, 966, 967, 968, 969, 970, 971, 972, 973, 974, 975, 976] (by decide +kernel) (by decide +kernel)
set_option maxRecDepth 20000 in
theorem gL_law_X10_move : GoodIn wsL_law (wsV RL 53 RX10 yX10_move wsX10_move) := goodIn_app (goodIn_of _ (by decide +kernel)) ggL_law_X10_move
set_option maxRecDepth 20000 in
theorem ggL_law_X9_back : GoodIn wsL_law wsX9_back := goodIn_r _ [487, 48, 470, 488, 489, 490, 47, 491, 277, 278, 113, 112, 475, 2, 476, 343, 299, 300, 929, 930, 931, 932, 933, 934, 935, 936, 937, 938, 939, 940, 941, 942, 1030, 1031, 1032, 1033] (by decide +kernel) (by decide +kernel)
set_option maxRecDepth 20000 in
theorem gL_law_X9_back : GoodIn wsL_law (wsV RL 54 RX9 yX9_back wsX9_back) := goodIn_app (goodIn_of _ (by decide +kernel)) ggL_law_X9_back
