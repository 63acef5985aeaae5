set_option maxRecDepth 20000 in
theorem ggL_law_X7_init : GoodIn wsL_law wsX7_init := goodIn_r _ [8, 9, 10, 11, 12, 13, 14, 15, 16, 17, 18, 19, 20, 21, 22, 23, 24, 25, 26, 27, 28, 29, 30, 31, 32, 33, 34, 35, 36, 37, 38, 39, 40, 41, 42, 43, 44, 45, 46, 47, 48, 49, 50, 51, 52, 53, 54, 55, 56, 57, 58, 59, 60, 61, 62, 63, 64, 65, 66, 67, 68, 69, 70, 71, 72, 73, 74, 75, 76, 77, 78, 79, 80, 81, 82, 83, 84, 85, 86, 87, 88, 89, 90, 91, 92, 93, 94, 95, 96, 97, 98, 99, 100, 101, 102, 103, 104, 984, 985, 986, 987, 988, 989, 945, 946, 947, 948, 949, 950, 951, 952, 953, 954, 955, 990, 991, 992, 993, 994, 995, 996, 997, 998, 999, 1000, 1001, 1002, 1003, 1004, 1005, 1006, 1007, 1008, 1009, 1010, 1011, 1012, 1013, 1014, 1015, 1016, 1017, 1018, 1019, 1020] rfl rfl
set_option maxRecDepth 20000 in
theorem gL_law_X7_init : GoodIn wsL_law (wsX7_init) := ggL_law_X7_init
set_option maxRecDepth 20000 in
theorem ggL_law_X8_init : GoodIn wsL_law wsX8_init := goodIn_r _ [107, 108, 10, 11, 38, 109, 110, 111, 112, 113, 114, 115, 116, 117, 118, 18, 119, 120, 121, 122, 123, 956, 957, 958, 959, 960, 961, 962, 963, 964, 965, 966, 967, 968, 969, 970, 971, 972, 973, 974, 975, 976, 977, 978, 979, 980, 981, 982, 983] rfl rfl
set_option maxRecDepth 20000 in
theorem gL_law_X8_init : GoodIn wsL_law (wsX8_init) := ggL_law_X8_init
set_option maxRecDepth 20000 in
theorem ggL_law_X7_feed : GoodIn wsL_law wsX7_feed := goodIn_r _ [127, 23, 945, 946, 947, 948, 949, 950, 951, 952, 953, 954, 955, 990, 991, 992, 993, 994, 995, 996, 997, 998] rfl rfl
set_option maxRecDepth 20000 in
theorem gL_law_X7_feed : GoodIn wsL_law (wsV RL 13 RX7 yX7_feed wsX7_feed) := goodIn_app (goodIn_of _ (by decide +kernel)) ggL_law_X7_feed
set_option maxRecDepth 20000 in
theorem ggL_law_X8_feed : GoodIn wsL_law wsX8_feed := goodIn_r _ [131, 132, 133, 110, 134, 135, 5, 136, 956, 957, 958, 959, 960, 961, 962, 963, 964, 965, 966, 967, 968, 969, 970, 971, 972, 973, 974, 975, 976, 977, 978, 979, 980, 981, 982, 983] rfl rfl
set_option maxRecDepth 20000 in
theorem gL_law_X8_feed : GoodIn wsL_law (wsV RL 17 RX8 yX8_feed wsX8_feed) := goodIn_app (goodIn_of _ (by decide +kernel)) ggL_law_X8_feed
set_option maxRecDepth 20000 in
theorem ggL_law_X7_end : GoodIn wsL_law wsX7_end := goodIn_r _ [140, 23, 945, 946, 947, 948, 949, 950, 951, 952, 953, 954, 955, 990, 991, 992, 993, 994, 995, 996, 997, 998] rfl rfl
set_option maxRecDepth 20000 in
theorem gL_law_X7_end : GoodIn wsL_law (wsV RL 18 RX7 yX7_end wsX7_end) := goodIn_app (goodIn_of _ (by decide +kernel)) ggL_law_X7_end
set_option maxRecDepth 20000 in
theorem ggL_law_X8_end : GoodIn wsL_law wsX8_end := goodIn_r _ [144, 133, 134, 135, 5, 136, 956, 957, 958, 959, 960, 961, 962, 963, 964, 965, 966, 967, 968, 969, 970, 971, 972, 973, 974, 975, 976, 977, 978, 979, 980, 981, 982, 983] rfl rfl
set_option maxRecDepth 20000 in
theorem gL_law_X8_end : GoodIn wsL_law (wsV RL 21 RX8 yX8_end wsX8_end) := goodIn_app (goodIn_of _ (by decide +kernel)) ggL_law_X8_end
set_option maxRecDepth 20000 in
theorem ggL_law_X7_text : GoodIn wsL_law wsX7_text := goodIn_r _ [148, 23, 16, 15, 31, 19, 149, 150, 151, 22, 152, 67, 68, 71, 69, 66, 153, 154, 155, 14, 156, 49, 50, 51, 52, 157, 158, 159, 160, 65, 70, 72, 161, 162, 163, 164, 165, 166, 167, 168, 169, 170, 171, 172, 173, 174, 175, 176, 177, 178, 179, 180, 181, 182, 183, 184, 185, 186, 187, 188, 189, 190, 191, 192, 193, 194, 195, 196, 197, 198, 199, 200, 201, 202, 203, 204, 205, 206, 207, 208, 209, 210, 211, 212, 213, 214, 215, 216, 217, 218, 219, 220, 221, 222, 223, 224, 225, 226, 227, 228, 229, 230, 231, 232, 233, 234, 235, 236, 237, 238, 239, 240, 241, 242, 243, 244, 245, 246, 247, 248, 249, 250, 251, 252, 253, 254, 255, 256, 48, 257, 59, 60, 61, 258, 259, 260, 261, 73, 262, 263, 264, 265, 266, 267, 268, 269, 270, 271, 272, 273, 274, 275, 276, 277, 278, 279, 280, 281, 282, 283, 284, 285, 286, 287, 288, 289, 290, 291, 292, 293, 294, 295, 296, 297, 298, 299, 300, 301, 302, 303, 304, 305, 306, 307, 308, 309, 30, 310, 87, 89, 945, 946, 947, 948, 949, 950, 951, 952, 953, 954, 955, 990, 991, 992, 993, 994, 995, 996, 997, 998, 984, 985, 986, 987, 988, 989, 1018, 1019, 1020, 1002, 1003, 1004, 1005, 1006, 1007, 1008, 1009, 1010] rfl rfl
set_option maxRecDepth 20000 in
theorem gL_law_X7_text : GoodIn wsL_law (wsV RL 22 RX7 yX7_text wsX7_text) := goodIn_app (goodIn_of _ (by decide +kernel)) ggL_law_X7_text
set_option maxRecDepth 20000 in
theorem ggL_law_X8_text : GoodIn wsL_law wsX8_text := goodIn_r _ [314, 315, 316, 109, 317, 133, 318, 319, 320, 119, 321, 322, 323, 5, 324, 325, 326, 327, 328, 329, 330, 331, 332, 333, 334, 110, 134, 135, 136, 335, 336, 337, 338, 339, 340, 341, 342, 343, 344, 345, 346, 347, 348, 111, 112, 349, 350, 351, 352, 353, 354, 355, 356, 357, 358, 359, 360, 361, 362, 363, 364, 365, 366, 367, 368, 369, 370, 371, 372, 373, 374, 375, 376, 377, 378, 379, 956, 957, 958, 959, 960, 961, 962, 963, 964, 965, 966, 967, 968, 969, 970, 971, 972, 973, 974, 975, 976, 977, 978, 979, 980, 981, 982, 983] rfl rfl
set_option maxRecDepth 20000 in
theorem gL_law_X8_text : GoodIn wsL_law (wsV RL 26 RX8 yX8_text wsX8_text) := goodIn_app (goodIn_of _ (by decide +kernel)) ggL_law_X8_text
set_option maxRecDepth 20000 in
theorem ggL_law_X7_fault : GoodIn wsL_law wsX7_fault := goodIn_r _ [383, 23, 945, 946, 947, 948, 949, 950, 951, 952, 953, 954, 955, 990, 991, 992, 993, 994, 995, 996, 997, 998] rfl rfl
set_option maxRecDepth 20000 in
theorem gL_law_X7_fault : GoodIn wsL_law (wsV RL 27 RX7 yX7_fault wsX7_fault) := goodIn_app (goodIn_of _ (by decide +kernel)) ggL_law_X7_fault
set_option maxRecDepth 20000 in
theorem ggL_law_X8_fault : GoodIn wsL_law wsX8_fault := goodIn_r _ [387, 318, 956, 957, 958, 959, 960, 961, 962, 963, 964, 965, 966, 967, 968, 969, 970, 971, 972, 973, 974, 975, 976, 977, 978, 979, 980, 981, 982, 983] rfl rfl
set_option maxRecDepth 20000 in
theorem gL_law_X8_fault : GoodIn wsL_law (wsV RL 30 RX8 yX8_fault wsX8_fault) := goodIn_app (goodIn_of _ (by decide +kernel)) ggL_law_X8_fault
set_option maxRecDepth 20000 in
theorem ggL_law_X7_rule : GoodIn wsL_law wsX7_rule := goodIn_r _ [391, 15, 31, 392, 393, 394, 14, 395, 49, 287, 288, 289, 48, 290, 59, 60, 61, 945, 946, 947, 948, 949, 950, 951, 952, 953, 954, 955, 984, 985, 986, 987, 988, 989, 1018, 1019, 1020, 1002, 1003, 1004, 1005, 1006, 1007, 1008, 1009, 1010] rfl rfl
set_option maxRecDepth 20000 in
theorem gL_law_X7_rule : GoodIn wsL_law (wsV RL 31 RX7 yX7_rule wsX7_rule) := goodIn_app (goodIn_of _ (by decide +kernel)) ggL_law_X7_rule
set_option maxRecDepth 20000 in
theorem ggL_law_X8_rule : GoodIn wsL_law wsX8_rule := goodIn_r _ [399, 400, 401, 320, 109, 402, 403, 134, 135, 5, 136, 404, 405, 406, 407, 116, 408, 409, 410, 411, 412, 413, 414, 415, 956, 957, 958, 959, 960, 961, 962, 963, 964, 965, 966, 967, 968, 969, 970, 971, 972, 973, 974, 975, 976, 977, 978, 979, 980, 981, 982, 983] rfl rfl
set_option maxRecDepth 20000 in
theorem gL_law_X8_rule : GoodIn wsL_law (wsV RL 34 RX8 yX8_rule wsX8_rule) := goodIn_app (goodIn_of _ (by decide +kernel)) ggL_law_X8_rule
set_option maxRecDepth 20000 in
theorem ggL_law_X7_routine : GoodIn wsL_law wsX7_routine := goodIn_r _ [419, 15, 420, 421, 422, 48, 423, 59, 424, 288, 289, 290, 60, 61, 425, 426, 427, 428, 429, 430, 431, 432, 433, 434, 435, 436, 437, 945, 946, 947, 948, 949, 950, 951, 952, 953, 954, 955, 984, 985, 986, 987, 988, 989, 1018, 1019, 1020] rfl rfl
set_option maxRecDepth 20000 in
theorem gL_law_X7_routine : GoodIn wsL_law (wsV RL 35 RX7 yX7_routine wsX7_routine) := goodIn_app (goodIn_of _ (by decide +kernel)) ggL_law_X7_routine
set_option maxRecDepth 20000 in
theorem ggL_law_X8_routine : GoodIn wsL_law wsX8_routine := goodIn_r _ [441, 362, 109, 442, 443, 444, 5, 445, 412, 413, 414, 415, 134, 135, 136, 446, 447, 448, 449, 956, 957, 958, 959, 960, 961, 962, 963, 964, 965, 966, 967, 968, 969, 970, 971, 972, 973, 974, 975, 976, 977, 978, 979, 980, 981, 982, 983] rfl rfl
set_option maxRecDepth 20000 in
theorem gL_law_X8_routine : GoodIn wsL_law (wsV RL 39 RX8 yX8_routine wsX8_routine) := goodIn_app (goodIn_of _ (by decide +kernel)) ggL_law_X8_routine
set_option maxRecDepth 20000 in
theorem ggL_law_X7_op : GoodIn wsL_law wsX7_op := goodIn_r _ [453, 15, 420, 421, 422, 48, 423, 59, 424, 288, 289, 290, 60, 61, 945, 946, 947, 948, 949, 950, 951, 952, 953, 954, 955, 984, 985, 986, 987, 988, 989, 1018, 1019, 1020] rfl rfl
set_option maxRecDepth 20000 in
theorem gL_law_X7_op : GoodIn wsL_law (wsV RL 40 RX7 yX7_op wsX7_op) := goodIn_app (goodIn_of _ (by decide +kernel)) ggL_law_X7_op
set_option maxRecDepth 20000 in
theorem ggL_law_X8_op : GoodIn wsL_law wsX8_op := goodIn_r _ [457, 109, 361, 134, 135, 5, 136, 956, 957, 958, 959, 960, 961, 962, 963, 964, 965, 966, 967, 968, 969, 970, 971, 972, 973, 974, 975, 976, 977, 978, 979, 980, 981, 982, 983] rfl rfl
set_option maxRecDepth 20000 in
theorem gL_law_X8_op : GoodIn wsL_law (wsV RL 43 RX8 yX8_op wsX8_op) := goodIn_app (goodIn_of _ (by decide +kernel)) ggL_law_X8_op
set_option maxRecDepth 20000 in
theorem ggL_law_X7_landing : GoodIn wsL_law wsX7_landing := goodIn_r _ [461, 15, 420, 421, 422, 48, 423, 59, 424, 288, 289, 290, 60, 61, 945, 946, 947, 948, 949, 950, 951, 952, 953, 954, 955, 984, 985, 986, 987, 988, 989, 1018, 1019, 1020] rfl rfl
set_option maxRecDepth 20000 in
theorem gL_law_X7_landing : GoodIn wsL_law (wsV RL 44 RX7 yX7_landing wsX7_landing) := goodIn_app (goodIn_of _ (by decide +kernel)) ggL_law_X7_landing
set_option maxRecDepth 20000 in
theorem ggL_law_X8_landing : GoodIn wsL_law wsX8_landing := goodIn_r _ [465, 109, 400, 134, 135, 5, 136, 956, 957, 958, 959, 960, 961, 962, 963, 964, 965, 966, 967, 968, 969, 970, 971, 972, 973, 974, 975, 976, 977, 978, 979, 980, 981, 982, 983] rfl rfl
set_option maxRecDepth 20000 in
theorem gL_law_X8_landing : GoodIn wsL_law (wsV RL 47 RX8 yX8_landing wsX8_landing) := goodIn_app (goodIn_of _ (by decide +kernel)) ggL_law_X8_landing
set_option maxRecDepth 20000 in
theorem ggL_law_X7_call : GoodIn wsL_law wsX7_call := goodIn_r _ [469, 15, 420, 421, 422, 48, 423, 59, 470, 471, 472, 473, 474, 431, 432, 433, 429, 288, 289, 290, 60, 61, 434, 435, 436, 437, 424, 945, 946, 947, 948, 949, 950, 951, 952, 953, 954, 955, 984, 985, 986, 987, 988, 989, 1018, 1019, 1020] rfl rfl
set_option maxRecDepth 20000 in
theorem gL_law_X7_call : GoodIn wsL_law (wsV RL 48 RX7 yX7_call wsX7_call) := goodIn_app (goodIn_of _ (by decide +kernel)) ggL_law_X7_call
set_option maxRecDepth 20000 in
theorem ggL_law_X8_call : GoodIn wsL_law wsX8_call := goodIn_r _ [478, 109, 343, 134, 135, 5, 136, 479, 480, 481, 482, 956, 957, 958, 959, 960, 961, 962, 963, 964, 965, 966, 967, 968, 969, 970, 971, 972, 973, 974, 975, 976, 977, 978, 979, 980, 981, 982, 983] rfl rfl
set_option maxRecDepth 20000 in
theorem gL_law_X8_call : GoodIn wsL_law (wsV RL 51 RX8 yX8_call wsX8_call) := goodIn_app (goodIn_of _ (by decide +kernel)) ggL_law_X8_call
set_option maxRecDepth 20000 in
theorem ggL_law_X7_whose : GoodIn wsL_law wsX7_whose := goodIn_r _ [486, 15, 487, 488, 489, 14, 490, 49, 291, 292, 293, 294, 287, 288, 289, 48, 290, 59, 60, 61, 945, 946, 947, 948, 949, 950, 951, 952, 953, 954, 955, 984, 985, 986, 987, 988, 989, 1018, 1019, 1020] rfl rfl
set_option maxRecDepth 20000 in
theorem gL_law_X7_whose : GoodIn wsL_law (wsV RL 52 RX7 yX7_whose wsX7_whose) := goodIn_app (goodIn_of _ (by decide +kernel)) ggL_law_X7_whose
set_option maxRecDepth 20000 in
theorem ggL_law_X8_whose : GoodIn wsL_law wsX8_whose := goodIn_r _ [494, 495, 496, 497, 5, 498, 412, 413, 414, 415, 109, 499, 500, 501, 502, 134, 135, 136, 956, 957, 958, 959, 960, 961, 962, 963, 964, 965, 966, 967, 968, 969, 970, 971, 972, 973, 974, 975, 976, 977, 978, 979, 980, 981, 982, 983] rfl rfl
set_option maxRecDepth 20000 in
theorem gL_law_X8_whose : GoodIn wsL_law (wsV RL 55 RX8 yX8_whose wsX8_whose) := goodIn_app (goodIn_of _ (by decide +kernel)) ggL_law_X8_whose
set_option maxRecDepth 20000 in
theorem ggL_law_X7_row : GoodIn wsL_law wsX7_row := goodIn_r _ [506, 15, 27, 487, 488, 489, 14, 490, 49, 291, 292, 293, 294, 287, 288, 289, 48, 290, 59, 60, 61, 507, 508, 509, 26, 510, 79, 511, 512, 513, 514, 77, 515, 516, 517, 518, 519, 520, 521, 522, 523, 2, 524, 525, 526, 527, 528, 529, 530, 531, 532, 533, 78, 534, 304, 305, 306, 535, 536, 537, 538, 539, 540, 541, 542, 543, 544, 545, 546, 945, 946, 947, 948, 949, 950, 951, 952, 953, 954, 955, 999, 1000, 1001, 984, 985, 986, 987, 988, 989, 1018, 1019, 1020] rfl rfl
set_option maxRecDepth 20000 in
theorem gL_law_X7_row : GoodIn wsL_law (wsV RL 56 RX7 yX7_row wsX7_row) := goodIn_app (goodIn_of _ (by decide +kernel)) ggL_law_X7_row
set_option maxRecDepth 20000 in
theorem ggL_law_X8_row : GoodIn wsL_law wsX8_row := goodIn_r _ [550, 343, 551, 113, 134, 135, 5, 136, 495, 496, 497, 498, 412, 413, 414, 415, 109, 499, 500, 501, 502, 552, 553, 554, 555, 556, 557, 558, 559, 560, 561, 562, 563, 564, 565, 566, 567, 568, 569, 570, 571, 114, 572, 573, 574, 575, 956, 957, 958, 959, 960, 961, 962, 963, 964, 965, 966, 967, 968, 969, 970, 971, 972, 973, 974, 975, 976, 977, 978, 979, 980, 981, 982, 983] rfl rfl
set_option maxRecDepth 20000 in
theorem gL_law_X8_row : GoodIn wsL_law (wsV RL 59 RX8 yX8_row wsX8_row) := goodIn_app (goodIn_of _ (by decide +kernel)) ggL_law_X8_row
set_option maxRecDepth 20000 in
theorem ggL_law_X7_ruleOf : GoodIn wsL_law wsX7_ruleOf := goodIn_r _ [579, 15, 27, 580, 523, 2, 524, 487, 488, 489, 14, 490, 49, 291, 292, 293, 294, 287, 288, 289, 48, 290, 59, 60, 61, 507, 508, 509, 26, 510, 79, 511, 512, 513, 514, 77, 515, 516, 517, 518, 519, 520, 521, 522, 525, 526, 527, 528, 529, 530, 531, 532, 533, 78, 534, 304, 305, 306, 535, 536, 537, 538, 581, 582, 583, 584, 585, 586, 587, 588, 945, 946, 947, 948, 949, 950, 951, 952, 953, 954, 955, 984, 985, 986, 987, 988, 989, 1018, 1019, 1020, 999, 1000, 1001] rfl rfl
set_option maxRecDepth 20000 in
theorem gL_law_X7_ruleOf : GoodIn wsL_law (wsV RL 60 RX7 yX7_ruleOf wsX7_ruleOf) := goodIn_app (goodIn_of _ (by decide +kernel)) ggL_law_X7_ruleOf
set_option maxRecDepth 20000 in
theorem ggL_law_X8_ruleOf : GoodIn wsL_law wsX8_ruleOf := goodIn_r _ [592, 362, 113, 134, 135, 5, 136, 495, 496, 497, 498, 412, 413, 414, 415, 109, 499, 500, 501, 502, 552, 553, 554, 555, 551, 556, 557, 558, 559, 560, 561, 562, 563, 564, 565, 566, 567, 568, 569, 570, 571, 114, 572, 573, 574, 575, 956, 957, 958, 959, 960, 961, 962, 963, 964, 965, 966, 967, 968, 969, 970, 971, 972, 973, 974, 975, 976, 977, 978, 979, 980, 981, 982, 983] rfl rfl
set_option maxRecDepth 20000 in
theorem gL_law_X8_ruleOf : GoodIn wsL_law (wsV RL 64 RX8 yX8_ruleOf wsX8_ruleOf) := goodIn_app (goodIn_of _ (by decide +kernel)) ggL_law_X8_ruleOf
set_option maxRecDepth 20000 in
theorem ggL_law_X7_put : GoodIn wsL_law wsX7_put := goodIn_r _ [596, 15, 580, 523, 2, 524, 597, 598, 599, 945, 946, 947, 948, 949, 950, 951, 952, 953, 954, 955, 984, 985, 986, 987, 988, 989] rfl rfl
set_option maxRecDepth 20000 in
theorem gL_law_X7_put : GoodIn wsL_law (wsV RL 65 RX7 yX7_put wsX7_put) := goodIn_app (goodIn_of _ (by decide +kernel)) ggL_law_X7_put
set_option maxRecDepth 20000 in
theorem ggL_law_X8_put : GoodIn wsL_law wsX8_put := goodIn_r _ [603, 604, 605, 5, 606, 362, 134, 135, 136, 607, 608, 609, 610, 611, 109, 956, 957, 958, 959, 960, 961, 962, 963, 964, 965, 966, 967, 968, 969, 970, 971, 972, 973, 974, 975, 976, 977, 978, 979, 980, 981, 982, 983] rfl rfl
set_option maxRecDepth 20000 in
theorem gL_law_X8_put : GoodIn wsL_law (wsV RL 68 RX8 yX8_put wsX8_put) := goodIn_app (goodIn_of _ (by decide +kernel)) ggL_law_X8_put
set_option maxRecDepth 20000 in
theorem ggL_law_X7_poke : GoodIn wsL_law wsX7_poke := goodIn_r _ [615, 15, 616, 617, 2, 618, 597, 598, 599, 945, 946, 947, 948, 949, 950, 951, 952, 953, 954, 955, 984, 985, 986, 987, 988, 989] rfl rfl
set_option maxRecDepth 20000 in
theorem gL_law_X7_poke : GoodIn wsL_law (wsV RL 69 RX7 yX7_poke wsX7_poke) := goodIn_app (goodIn_of _ (by decide +kernel)) ggL_law_X7_poke
set_option maxRecDepth 20000 in
theorem ggL_law_X8_poke : GoodIn wsL_law wsX8_poke := goodIn_r _ [622, 623, 624, 5, 625, 626, 134, 135, 136, 607, 608, 609, 610, 611, 109, 956, 957, 958, 959, 960, 961, 962, 963, 964, 965, 966, 967, 968, 969, 970, 971, 972, 973, 974, 975, 976, 977, 978, 979, 980, 981, 982, 983] rfl rfl
set_option maxRecDepth 20000 in
theorem gL_law_X8_poke : GoodIn wsL_law (wsV RL 72 RX8 yX8_poke wsX8_poke) := goodIn_app (goodIn_of _ (by decide +kernel)) ggL_law_X8_poke
set_option maxRecDepth 20000 in
theorem ggL_law_X7_get : GoodIn wsL_law wsX7_get := goodIn_r _ [630, 15, 580, 523, 2, 524, 945, 946, 947, 948, 949, 950, 951, 952, 953, 954, 955, 984, 985, 986, 987, 988, 989] rfl rfl
set_option maxRecDepth 20000 in
theorem gL_law_X7_get : GoodIn wsL_law (wsV RL 73 RX7 yX7_get wsX7_get) := goodIn_app (goodIn_of _ (by decide +kernel)) ggL_law_X7_get
set_option maxRecDepth 20000 in
theorem ggL_law_X8_get : GoodIn wsL_law wsX8_get := goodIn_r _ [634, 109, 604, 605, 5, 606, 362, 134, 135, 136, 956, 957, 958, 959, 960, 961, 962, 963, 964, 965, 966, 967, 968, 969, 970, 971, 972, 973, 974, 975, 976, 977, 978, 979, 980, 981, 982, 983] rfl rfl
set_option maxRecDepth 20000 in
theorem gL_law_X8_get : GoodIn wsL_law (wsV RL 76 RX8 yX8_get wsX8_get) := goodIn_app (goodIn_of _ (by decide +kernel)) ggL_law_X8_get
set_option maxRecDepth 20000 in
theorem ggL_law_X7_peek : GoodIn wsL_law wsX7_peek := goodIn_r _ [638, 15, 616, 617, 2, 618, 945, 946, 947, 948, 949, 950, 951, 952, 953, 954, 955, 984, 985, 986, 987, 988, 989] rfl rfl
set_option maxRecDepth 20000 in
theorem gL_law_X7_peek : GoodIn wsL_law (wsV RL 77 RX7 yX7_peek wsX7_peek) := goodIn_app (goodIn_of _ (by decide +kernel)) ggL_law_X7_peek
set_option maxRecDepth 20000 in
theorem ggL_law_X8_peek : GoodIn wsL_law wsX8_peek := goodIn_r _ [642, 109, 623, 624, 5, 625, 626, 134, 135, 136, 956, 957, 958, 959, 960, 961, 962, 963, 964, 965, 966, 967, 968, 969, 970, 971, 972, 973, 974, 975, 976, 977, 978, 979, 980, 981, 982, 983] rfl rfl
set_option maxRecDepth 20000 in
theorem gL_law_X8_peek : GoodIn wsL_law (wsV RL 80 RX8 yX8_peek wsX8_peek) := goodIn_app (goodIn_of _ (by decide +kernel)) ggL_law_X8_peek
set_option maxRecDepth 20000 in
theorem ggL_law_X7_walk : GoodIn wsL_law wsX7_walk := goodIn_r _ [646, 31, 15, 35, 27, 647, 648, 649, 30, 650, 87, 88, 89, 90, 91, 83, 651, 652, 653, 654, 86, 655, 656, 657, 658, 85, 84, 659, 660, 661, 662, 663, 664, 665, 666, 523, 2, 524, 667, 488, 489, 14, 490, 49, 291, 292, 293, 294, 287, 288, 289, 48, 290, 59, 60, 61, 668, 669, 670, 671, 672, 673, 507, 508, 509, 26, 510, 79, 511, 512, 513, 514, 77, 515, 516, 517, 518, 519, 520, 521, 522, 525, 526, 527, 528, 529, 530, 531, 532, 533, 78, 534, 304, 305, 306, 535, 536, 537, 538, 674, 675, 676, 677, 678, 540, 541, 542, 679, 544, 545, 546, 581, 582, 583, 584, 585, 586, 587, 588, 616, 617, 618, 680, 681, 682, 683, 684, 685, 686, 687, 688, 689, 34, 690, 97, 691, 692, 693, 694, 695, 696, 697, 698, 52, 699, 426, 427, 428, 429, 700, 701, 702, 703, 704, 705, 706, 707, 708, 709, 710, 711, 96, 95, 712, 713, 714, 715, 716, 717, 718, 719, 720, 721, 722, 723, 724, 725, 726, 727, 728, 729, 730, 945, 946, 947, 948, 949, 950, 951, 952, 953, 954, 955, 984, 985, 986, 987, 988, 989, 1002, 1003, 1004, 1005, 1006, 1007, 1008, 1009, 1010, 1018, 1019, 1020, 999, 1000, 1001, 1011, 1012, 1013] rfl rfl
set_option maxRecDepth 20000 in
theorem gL_law_X7_walk : GoodIn wsL_law (wsV RL 81 RX7 yX7_walk wsX7_walk) := goodIn_app (goodIn_of _ (by decide +kernel)) ggL_law_X7_walk
set_option maxRecDepth 20000 in
theorem ggL_law_X8_walk : GoodIn wsL_law wsX8_walk := goodIn_r _ [734, 115, 109, 402, 403, 320, 134, 135, 5, 136, 735, 736, 737, 738, 118, 116, 117, 495, 496, 497, 498, 412, 413, 414, 415, 499, 500, 501, 502, 739, 740, 741, 742, 113, 552, 553, 554, 555, 551, 556, 557, 558, 559, 560, 561, 562, 563, 564, 565, 566, 567, 568, 569, 570, 571, 114, 572, 573, 574, 575, 623, 624, 625, 626, 743, 744, 745, 746, 747, 748, 749, 750, 751, 752, 753, 754, 956, 957, 958, 959, 960, 961, 962, 963, 964, 965, 966, 967, 968, 969, 970, 971, 972, 973, 974, 975, 976, 977, 978, 979, 980, 981, 982, 983] rfl rfl
set_option maxRecDepth 20000 in
theorem gL_law_X8_walk : GoodIn wsL_law (wsV RL 84 RX8 yX8_walk wsX8_walk) := goodIn_app (goodIn_of _ (by decide +kernel)) ggL_law_X8_walk
set_option maxRecDepth 20000 in
theorem ggL_law_X7_frame : GoodIn wsL_law wsX7_frame := goodIn_r _ [758, 31, 759, 660, 661, 30, 662, 89, 580, 523, 2, 524, 673, 664, 665, 666, 83, 659, 945, 946, 947, 948, 949, 950, 951, 952, 953, 954, 955, 1002, 1003, 1004, 1005, 1006, 1007, 1008, 1009, 1010] rfl rfl
set_option maxRecDepth 20000 in
theorem gL_law_X7_frame : GoodIn wsL_law (wsV RL 85 RX7 yX7_frame wsX7_frame) := goodIn_app (goodIn_of _ (by decide +kernel)) ggL_law_X7_frame
set_option maxRecDepth 20000 in
theorem ggL_law_X8_frame : GoodIn wsL_law wsX8_frame := goodIn_r _ [763, 115, 764, 765, 766, 5, 767, 320, 402, 134, 135, 136, 604, 605, 606, 362, 956, 957, 958, 959, 960, 961, 962, 963, 964, 965, 966, 967, 968, 969, 970, 971, 972, 973, 974, 975, 976, 977, 978, 979, 980, 981, 982, 983] rfl rfl
set_option maxRecDepth 20000 in
theorem gL_law_X8_frame : GoodIn wsL_law (wsV RL 88 RX8 yX8_frame wsX8_frame) := goodIn_app (goodIn_of _ (by decide +kernel)) ggL_law_X8_frame
set_option maxRecDepth 20000 in
theorem ggL_law_X7_came : GoodIn wsL_law wsX7_came := goodIn_r _ [771, 31, 759, 660, 661, 30, 662, 89, 945, 946, 947, 948, 949, 950, 951, 952, 953, 954, 955, 1002, 1003, 1004, 1005, 1006, 1007, 1008, 1009, 1010] rfl rfl
set_option maxRecDepth 20000 in
theorem gL_law_X7_came : GoodIn wsL_law (wsV RL 89 RX7 yX7_came wsX7_came) := goodIn_app (goodIn_of _ (by decide +kernel)) ggL_law_X7_came
set_option maxRecDepth 20000 in
theorem ggL_law_X8_came : GoodIn wsL_law wsX8_came := goodIn_r _ [775, 343, 118, 117, 116, 764, 765, 766, 5, 767, 320, 402, 134, 135, 136, 956, 957, 958, 959, 960, 961, 962, 963, 964, 965, 966, 967, 968, 969, 970, 971, 972, 973, 974, 975, 976, 977, 978, 979, 980, 981, 982, 983] rfl rfl
set_option maxRecDepth 20000 in
theorem gL_law_X8_came : GoodIn wsL_law (wsV RL 92 RX8 yX8_came wsX8_came) := goodIn_app (goodIn_of _ (by decide +kernel)) ggL_law_X8_came
set_option maxRecDepth 20000 in
theorem ggL_law_X7_guess : GoodIn wsL_law wsX7_guess := goodIn_r _ [779, 15, 35, 616, 617, 2, 618, 420, 421, 422, 48, 423, 59, 687, 688, 689, 34, 690, 97, 691, 692, 693, 694, 488, 489, 14, 490, 49, 291, 292, 293, 294, 287, 288, 289, 290, 60, 61, 695, 696, 697, 698, 52, 699, 426, 427, 428, 429, 700, 701, 702, 703, 704, 705, 706, 707, 708, 709, 710, 711, 96, 95, 945, 946, 947, 948, 949, 950, 951, 952, 953, 954, 955, 984, 985, 986, 987, 988, 989, 1011, 1012, 1013, 1018, 1019, 1020] rfl rfl
set_option maxRecDepth 20000 in
theorem gL_law_X7_guess : GoodIn wsL_law (wsV RL 93 RX7 yX7_guess wsX7_guess) := goodIn_app (goodIn_of _ (by decide +kernel)) ggL_law_X7_guess
set_option maxRecDepth 20000 in
theorem ggL_law_X8_guess : GoodIn wsL_law wsX8_guess := goodIn_r _ [783, 623, 624, 5, 625, 626, 134, 135, 136, 442, 443, 444, 445, 412, 413, 414, 415, 109, 747, 748, 749, 750, 751, 752, 753, 754, 495, 496, 497, 498, 499, 500, 501, 502, 956, 957, 958, 959, 960, 961, 962, 963, 964, 965, 966, 967, 968, 969, 970, 971, 972, 973, 974, 975, 976, 977, 978, 979, 980, 981, 982, 983] rfl rfl
set_option maxRecDepth 20000 in
theorem gL_law_X8_guess : GoodIn wsL_law (wsV RL 97 RX8 yX8_guess wsX8_guess) := goodIn_app (goodIn_of _ (by decide +kernel)) ggL_law_X8_guess
set_option maxRecDepth 20000 in
theorem ggL_law_X7_caught : GoodIn wsL_law wsX7_caught := goodIn_r _ [787, 31, 788, 789, 2, 790, 791, 792, 793, 794, 795, 796, 797, 798, 15, 424, 288, 289, 48, 290, 59, 60, 61, 799, 800, 801, 802, 945, 946, 947, 948, 949, 950, 951, 952, 953, 954, 955, 1002, 1003, 1004, 1005, 1006, 1007, 1008, 1009, 1010, 984, 985, 986, 987, 988, 989, 1018, 1019, 1020] rfl rfl
set_option maxRecDepth 20000 in
theorem gL_law_X7_caught : GoodIn wsL_law (wsV RL 98 RX7 yX7_caught wsX7_caught) := goodIn_app (goodIn_of _ (by decide +kernel)) ggL_law_X7_caught
set_option maxRecDepth 20000 in
theorem ggL_law_X8_caught : GoodIn wsL_law wsX8_caught := goodIn_r _ [806, 344, 320, 134, 135, 5, 136, 807, 808, 809, 810, 402, 811, 812, 813, 814, 109, 815, 816, 817, 818, 118, 117, 956, 957, 958, 959, 960, 961, 962, 963, 964, 965, 966, 967, 968, 969, 970, 971, 972, 973, 974, 975, 976, 977, 978, 979, 980, 981, 982, 983] rfl rfl
set_option maxRecDepth 20000 in
theorem gL_law_X8_caught : GoodIn wsL_law (wsV RL 101 RX8 yX8_caught wsX8_caught) := goodIn_app (goodIn_of _ (by decide +kernel)) ggL_law_X8_caught
set_option maxRecDepth 20000 in
theorem ggL_law_X7_cleaned : GoodIn wsL_law wsX7_cleaned := goodIn_r _ [822, 31, 15, 788, 789, 2, 790, 791, 792, 793, 794, 795, 796, 797, 798, 424, 288, 289, 48, 290, 59, 60, 61, 799, 800, 801, 802, 945, 946, 947, 948, 949, 950, 951, 952, 953, 954, 955, 1002, 1003, 1004, 1005, 1006, 1007, 1008, 1009, 1010, 984, 985, 986, 987, 988, 989, 1018, 1019, 1020] rfl rfl
set_option maxRecDepth 20000 in
theorem gL_law_X7_cleaned : GoodIn wsL_law (wsV RL 102 RX7 yX7_cleaned wsX7_cleaned) := goodIn_app (goodIn_of _ (by decide +kernel)) ggL_law_X7_cleaned
set_option maxRecDepth 20000 in
theorem ggL_law_X8_cleaned : GoodIn wsL_law wsX8_cleaned := goodIn_r _ [826, 344, 320, 109, 134, 135, 5, 136, 807, 808, 809, 810, 402, 811, 812, 813, 814, 815, 816, 817, 818, 118, 117, 956, 957, 958, 959, 960, 961, 962, 963, 964, 965, 966, 967, 968, 969, 970, 971, 972, 973, 974, 975, 976, 977, 978, 979, 980, 981, 982, 983] rfl rfl
set_option maxRecDepth 20000 in
theorem gL_law_X8_cleaned : GoodIn wsL_law (wsV RL 105 RX8 yX8_cleaned wsX8_cleaned) := goodIn_app (goodIn_of _ (by decide +kernel)) ggL_law_X8_cleaned
set_option maxRecDepth 20000 in
theorem ggL_law_X7_move : GoodIn wsL_law wsX7_move := goodIn_r _ [830, 15, 420, 421, 422, 48, 423, 59, 424, 288, 289, 290, 60, 61, 831, 292, 293, 14, 294, 49, 287, 832, 280, 281, 282, 945, 946, 947, 948, 949, 950, 951, 952, 953, 954, 955, 984, 985, 986, 987, 988, 989, 1018, 1019, 1020] rfl rfl
set_option maxRecDepth 20000 in
theorem gL_law_X7_move : GoodIn wsL_law (wsV RL 106 RX7 yX7_move wsX7_move) := goodIn_app (goodIn_of _ (by decide +kernel)) ggL_law_X7_move
set_option maxRecDepth 20000 in
theorem ggL_law_X8_move : GoodIn wsL_law wsX8_move := goodIn_r _ [836, 837, 109, 442, 443, 444, 5, 445, 412, 413, 414, 415, 134, 135, 136, 376, 377, 378, 379, 956, 957, 958, 959, 960, 961, 962, 963, 964, 965, 966, 967, 968, 969, 970, 971, 972, 973, 974, 975, 976, 977, 978, 979, 980, 981, 982, 983] rfl rfl
set_option maxRecDepth 20000 in
theorem gL_law_X8_move : GoodIn wsL_law (wsV RL 109 RX8 yX8_move wsX8_move) := goodIn_app (goodIn_of _ (by decide +kernel)) ggL_law_X8_move
set_option maxRecDepth 20000 in
theorem ggL_law_X7_alter : GoodIn wsL_law wsX7_alter := goodIn_r _ [841, 15, 420, 421, 422, 48, 423, 59, 424, 288, 289, 290, 60, 61, 580, 523, 2, 524, 832, 280, 281, 282, 945, 946, 947, 948, 949, 950, 951, 952, 953, 954, 955, 984, 985, 986, 987, 988, 989, 1018, 1019, 1020] rfl rfl
set_option maxRecDepth 20000 in
theorem gL_law_X7_alter : GoodIn wsL_law (wsV RL 110 RX7 yX7_alter wsX7_alter) := goodIn_app (goodIn_of _ (by decide +kernel)) ggL_law_X7_alter
set_option maxRecDepth 20000 in
theorem ggL_law_X8_alter : GoodIn wsL_law wsX8_alter := goodIn_r _ [845, 109, 361, 846, 134, 135, 5, 136, 604, 605, 606, 362, 956, 957, 958, 959, 960, 961, 962, 963, 964, 965, 966, 967, 968, 969, 970, 971, 972, 973, 974, 975, 976, 977, 978, 979, 980, 981, 982, 983] rfl rfl
set_option maxRecDepth 20000 in
theorem gL_law_X8_alter : GoodIn wsL_law (wsV RL 113 RX8 yX8_alter wsX8_alter) := goodIn_app (goodIn_of _ (by decide +kernel)) ggL_law_X8_alter
set_option maxRecDepth 20000 in
theorem ggL_law_X7_keep : GoodIn wsL_law wsX7_keep := goodIn_r _ [850, 19, 17, 15, 851, 852, 853, 14, 854, 53, 855, 304, 305, 306, 54, 856, 296, 297, 298, 49, 50, 51, 52, 299, 300, 301, 48, 302, 61, 303, 59, 945, 946, 947, 948, 949, 950, 951, 952, 953, 954, 955, 984, 985, 986, 987, 988, 989, 1018, 1019, 1020] rfl rfl
set_option maxRecDepth 20000 in
theorem gL_law_X7_keep : GoodIn wsL_law (wsV RL 114 RX7 yX7_keep wsX7_keep) := goodIn_app (goodIn_of _ (by decide +kernel)) ggL_law_X7_keep
set_option maxRecDepth 20000 in
theorem ggL_law_X8_keep : GoodIn wsL_law wsX8_keep := goodIn_r _ [860, 119, 134, 135, 5, 136, 861, 862, 863, 864, 109, 956, 957, 958, 959, 960, 961, 962, 963, 964, 965, 966, 967, 968, 969, 970, 971, 972, 973, 974, 975, 976, 977, 978, 979, 980, 981, 982, 983] rfl rfl
set_option maxRecDepth 20000 in
theorem gL_law_X8_keep : GoodIn wsL_law (wsV RL 117 RX8 yX8_keep wsX8_keep) := goodIn_app (goodIn_of _ (by decide +kernel)) ggL_law_X8_keep
set_option maxRecDepth 20000 in
theorem ggL_law_X7_back : GoodIn wsL_law wsX7_back := goodIn_r _ [868, 19, 15, 17, 31, 851, 852, 853, 14, 854, 53, 855, 304, 305, 306, 54, 856, 296, 297, 298, 49, 50, 51, 52, 299, 300, 301, 48, 302, 61, 303, 59, 307, 308, 309, 30, 310, 87, 89, 945, 946, 947, 948, 949, 950, 951, 952, 953, 954, 955, 984, 985, 986, 987, 988, 989, 1018, 1019, 1020, 1002, 1003, 1004, 1005, 1006, 1007, 1008, 1009, 1010] rfl rfl
set_option maxRecDepth 20000 in
theorem gL_law_X7_back : GoodIn wsL_law (wsV RL 118 RX7 yX7_back wsX7_back) := goodIn_app (goodIn_of _ (by decide +kernel)) ggL_law_X7_back
set_option maxRecDepth 20000 in
theorem ggL_law_X8_back : GoodIn wsL_law wsX8_back := goodIn_r _ [872, 119, 320, 134, 135, 5, 136, 861, 862, 863, 864, 109, 412, 413, 414, 415, 956, 957, 958, 959, 960, 961, 962, 963, 964, 965, 966, 967, 968, 969, 970, 971, 972, 973, 974, 975, 976, 977, 978, 979, 980, 981, 982, 983] rfl rfl
set_option maxRecDepth 20000 in
theorem gL_law_X8_back : GoodIn wsL_law (wsV RL 121 RX8 yX8_back wsX8_back) := goodIn_app (goodIn_of _ (by decide +kernel)) ggL_law_X8_back
set_option maxRecDepth 20000 in
theorem ggL_law_X7_sheet : GoodIn wsL_law wsX7_sheet := goodIn_r _ [876, 37, 877, 878, 2, 879, 880, 881, 882, 883, 884, 885, 42, 886, 101, 102, 103, 104, 887, 516, 517, 518, 945, 946, 947, 948, 949, 950, 951, 952, 953, 954, 955, 1014, 1015, 1016, 1017] rfl rfl
set_option maxRecDepth 20000 in
theorem gL_law_X7_sheet : GoodIn wsL_law (wsV RL 122 RX7 yX7_sheet wsX7_sheet) := goodIn_app (goodIn_of _ (by decide +kernel)) ggL_law_X7_sheet
set_option maxRecDepth 20000 in
theorem ggL_law_X8_sheet : GoodIn wsL_law wsX8_sheet := goodIn_r _ [891, 361, 343, 120, 121, 122, 134, 135, 5, 136, 956, 957, 958, 959, 960, 961, 962, 963, 964, 965, 966, 967, 968, 969, 970, 971, 972, 973, 974, 975, 976, 977, 978, 979, 980, 981, 982, 983] rfl rfl
set_option maxRecDepth 20000 in
theorem gL_law_X8_sheet : GoodIn wsL_law (wsV RL 125 RX8 yX8_sheet wsX8_sheet) := goodIn_app (goodIn_of _ (by decide +kernel)) ggL_law_X8_sheet
set_option maxRecDepth 20000 in
theorem ggL_law_X7_lay : GoodIn wsL_law wsX7_lay := goodIn_r _ [895, 37, 877, 878, 2, 879, 896, 897, 898, 42, 899, 102, 103, 104, 900, 901, 902, 903, 101, 945, 946, 947, 948, 949, 950, 951, 952, 953, 954, 955, 1014, 1015, 1016, 1017] rfl rfl
set_option maxRecDepth 20000 in
theorem gL_law_X7_lay : GoodIn wsL_law (wsV RL 126 RX7 yX7_lay wsX7_lay) := goodIn_app (goodIn_of _ (by decide +kernel)) ggL_law_X7_lay
set_option maxRecDepth 20000 in
theorem ggL_law_X8_lay : GoodIn wsL_law wsX8_lay := goodIn_r _ [907, 361, 120, 121, 122, 134, 135, 5, 136, 956, 957, 958, 959, 960, 961, 962, 963, 964, 965, 966, 967, 968, 969, 970, 971, 972, 973, 974, 975, 976, 977, 978, 979, 980, 981, 982, 983] rfl rfl
set_option maxRecDepth 20000 in
theorem gL_law_X8_lay : GoodIn wsL_law (wsV RL 129 RX8 yX8_lay wsX8_lay) := goodIn_app (goodIn_of _ (by decide +kernel)) ggL_law_X8_lay
set_option maxRecDepth 20000 in
theorem ggL_law_X7_read : GoodIn wsL_law wsX7_read := goodIn_r _ [911, 37, 39, 15, 40, 877, 878, 2, 879, 880, 881, 882, 896, 897, 898, 42, 899, 102, 103, 104, 616, 617, 618, 597, 598, 599, 945, 946, 947, 948, 949, 950, 951, 952, 953, 954, 955, 1014, 1015, 1016, 1017, 984, 985, 986, 987, 988, 989] rfl rfl
set_option maxRecDepth 20000 in
theorem gL_law_X7_read : GoodIn wsL_law (wsV RL 130 RX7 yX7_read wsX7_read) := goodIn_app (goodIn_of _ (by decide +kernel)) ggL_law_X7_read
set_option maxRecDepth 20000 in
theorem ggL_law_X8_read : GoodIn wsL_law wsX8_read := goodIn_r _ [915, 361, 343, 916, 120, 121, 122, 917, 134, 135, 5, 136, 918, 919, 920, 921, 109, 123, 922, 923, 924, 925, 626, 607, 608, 609, 610, 611, 956, 957, 958, 959, 960, 961, 962, 963, 964, 965, 966, 967, 968, 969, 970, 971, 972, 973, 974, 975, 976, 977, 978, 979, 980, 981, 982, 983] rfl rfl
set_option maxRecDepth 20000 in
theorem gL_law_X8_read : GoodIn wsL_law (wsV RL 134 RX8 yX8_read wsX8_read) := goodIn_app (goodIn_of _ (by decide +kernel)) ggL_law_X8_read
set_option maxRecDepth 20000 in
theorem ggL_law_X7_torn : GoodIn wsL_law wsX7_torn := goodIn_r _ [929, 40, 945, 946, 947, 948, 949, 950, 951, 952, 953, 954, 955] rfl rfl
set_option maxRecDepth 20000 in
theorem gL_law_X7_torn : GoodIn wsL_law (wsV RL 135 RX7 yX7_torn wsX7_torn) := goodIn_app (goodIn_of _ (by decide +kernel)) ggL_law_X7_torn
set_option maxRecDepth 20000 in
theorem ggL_law_X8_torn : GoodIn wsL_law wsX8_torn := goodIn_r _ [933, 917, 956, 957, 958, 959, 960, 961, 962, 963, 964, 965, 966, 967, 968, 969, 970, 971, 972, 973, 974, 975, 976, 977, 978, 979, 980, 981, 982, 983] rfl rfl
set_option maxRecDepth 20000 in
theorem gL_law_X8_torn : GoodIn wsL_law (wsV RL 138 RX8 yX8_torn wsX8_torn) := goodIn_app (goodIn_of _ (by decide +kernel)) ggL_law_X8_torn
set_option maxRecDepth 20000 in
theorem ggL_law_X7_count : GoodIn wsL_law wsX7_count := goodIn_r _ [937, 19, 23, 37, 15, 938, 939, 2, 940, 945, 946, 947, 948, 949, 950, 951, 952, 953, 954, 955, 990, 991, 992, 993, 994, 995, 996, 997, 998, 1014, 1015, 1016, 1017, 984, 985, 986, 987, 988, 989] rfl rfl
set_option maxRecDepth 20000 in
theorem gL_law_X7_count : GoodIn wsL_law (wsV RL 139 RX7 yX7_count wsX7_count) := goodIn_app (goodIn_of _ (by decide +kernel)) ggL_law_X7_count
set_option maxRecDepth 20000 in
theorem ggL_law_X8_count : GoodIn wsL_law wsX8_count := goodIn_r _ [944, 109, 119, 133, 120, 121, 956, 957, 958, 959, 960, 961, 962, 963, 964, 965, 966, 967, 968, 969, 970, 971, 972, 973, 974, 975, 976, 977, 978, 979, 980, 981, 982, 983] rfl rfl
set_option maxRecDepth 20000 in
theorem gL_law_X8_count : GoodIn wsL_law (wsV RL 142 RX8 yX8_count wsX8_count) := goodIn_app (goodIn_of _ (by decide +kernel)) ggL_law_X8_count
