set_option maxRecDepth 20000 in
theorem ggX7_init_X6_init : GoodIn wsX7_init wsX6_init := goodIn_r _ [36, 37, 2, 3, 38, 39, 40, 41, 42, 43, 44, 30, 45, 46, 47, 48, 49, 50, 51, 52, 53, 142, 143, 144, 97, 98, 99, 100, 101, 102] rfl rfl
set_option maxRecDepth 20000 in
theorem gX7_init_X6_init_n9 : GoodIn wsX7_init (wsX6_init) := ggX7_init_X6_init
set_option maxRecDepth 20000 in
theorem ggX7_init_X4_init : GoodIn wsX7_init wsX4_init := goodIn_r _ [55, 56, 2, 3, 30, 57, 58, 59, 60, 61, 62, 63, 64, 65, 114, 115, 116, 117, 118, 119, 120, 121, 122] rfl rfl
set_option maxRecDepth 20000 in
theorem gX7_init_X4_init_n29 : GoodIn wsX7_init (wsX4_init) := ggX7_init_X4_init
set_option maxRecDepth 20000 in
theorem ggX7_init_X1_init : GoodIn wsX7_init wsX1_init := goodIn_r _ [67, 68, 2, 3, 30, 69, 70, 71, 123, 124, 125] rfl rfl
set_option maxRecDepth 20000 in
theorem gX7_init_X1_init_n36 : GoodIn wsX7_init (wsX1_init) := ggX7_init_X1_init
set_option maxRecDepth 20000 in
theorem ggX7_init_X5_init : GoodIn wsX7_init wsX5_init := goodIn_r _ [73, 74, 2, 3, 30, 75, 76, 77, 78, 79, 80, 81, 82, 83, 126, 127, 128, 129, 130, 131, 132, 133, 134] rfl rfl
set_option maxRecDepth 20000 in
theorem gX7_init_X5_init_n43 : GoodIn wsX7_init (wsX5_init) := ggX7_init_X5_init
set_option maxRecDepth 20000 in
theorem ggX7_init_X0_init : GoodIn wsX7_init wsX0_init := goodIn_r _ [85, 86, 2, 3, 30, 87, 88, 89, 135, 136, 137] rfl rfl
set_option maxRecDepth 20000 in
theorem gX7_init_X0_init_n50 : GoodIn wsX7_init (wsX0_init) := ggX7_init_X0_init
set_option maxRecDepth 20000 in
theorem ggX7_init_X2_init : GoodIn wsX7_init wsX2_init := goodIn_r _ [91, 92, 2, 3, 30, 93, 94, 95, 96, 138, 139, 140, 141] rfl rfl
set_option maxRecDepth 20000 in
theorem gX7_init_X2_init_n69 : GoodIn wsX7_init (wsX2_init) := ggX7_init_X2_init
theorem dX7_init_0 : decode cX7_init 0 = .ok (.aload_n 0, 1) := by decide +kernel
theorem dX7_init_1 : decode cX7_init 1 = .ok (.invokespecial 1, 3) := by decide +kernel
theorem dX7_init_4 : decode cX7_init 4 = .ok (.aload_n 0, 1) := by decide +kernel
theorem dX7_init_5 : decode cX7_init 5 = .ok (.new 7, 3) := by decide +kernel
theorem dX7_init_8 : decode cX7_init 8 = .ok (.dup, 1) := by decide +kernel
theorem dX7_init_9 : decode cX7_init 9 = .ok (.invokespecial 9, 3) := by decide +kernel
theorem dX7_init_12 : decode cX7_init 12 = .ok (.putfield 10, 3) := by decide +kernel
theorem dX7_init_15 : decode cX7_init 15 = .ok (.aload_n 0, 1) := by decide +kernel
theorem dX7_init_16 : decode cX7_init 16 = .ok (.new 7, 3) := by decide +kernel
theorem dX7_init_19 : decode cX7_init 19 = .ok (.dup, 1) := by decide +kernel
theorem dX7_init_20 : decode cX7_init 20 = .ok (.invokespecial 9, 3) := by decide +kernel
theorem dX7_init_23 : decode cX7_init 23 = .ok (.putfield 16, 3) := by decide +kernel
theorem dX7_init_26 : decode cX7_init 26 = .ok (.aload_n 0, 1) := by decide +kernel
theorem dX7_init_27 : decode cX7_init 27 = .ok (.iconst 2, 1) := by decide +kernel
theorem dX7_init_28 : decode cX7_init 28 = .ok (.anewarray 7, 3) := by decide +kernel
theorem dX7_init_31 : decode cX7_init 31 = .ok (.putfield 19, 3) := by decide +kernel
theorem dX7_init_34 : decode cX7_init 34 = .ok (.aload_n 0, 1) := by decide +kernel
theorem dX7_init_35 : decode cX7_init 35 = .ok (.iconst 2, 1) := by decide +kernel
theorem dX7_init_36 : decode cX7_init 36 = .ok (.newarray .boolean, 2) := by decide +kernel
theorem dX7_init_38 : decode cX7_init 38 = .ok (.putfield 23, 3) := by decide +kernel
theorem dX7_init_41 : decode cX7_init 41 = .ok (.aload_n 0, 1) := by decide +kernel
theorem dX7_init_42 : decode cX7_init 42 = .ok (.new 27, 3) := by decide +kernel
theorem dX7_init_45 : decode cX7_init 45 = .ok (.dup, 1) := by decide +kernel
theorem dX7_init_46 : decode cX7_init 46 = .ok (.invokespecial 29, 3) := by decide +kernel
theorem dX7_init_49 : decode cX7_init 49 = .ok (.putfield 30, 3) := by decide +kernel
theorem dX7_init_52 : decode cX7_init 52 = .ok (.aload_n 0, 1) := by decide +kernel
theorem dX7_init_53 : decode cX7_init 53 = .ok (.new 34, 3) := by decide +kernel
theorem dX7_init_56 : decode cX7_init 56 = .ok (.dup, 1) := by decide +kernel
theorem dX7_init_57 : decode cX7_init 57 = .ok (.invokespecial 36, 3) := by decide +kernel
theorem dX7_init_60 : decode cX7_init 60 = .ok (.putfield 37, 3) := by decide +kernel
theorem dX7_init_63 : decode cX7_init 63 = .ok (.aload_n 0, 1) := by decide +kernel
theorem dX7_init_64 : decode cX7_init 64 = .ok (.new 41, 3) := by decide +kernel
theorem dX7_init_67 : decode cX7_init 67 = .ok (.dup, 1) := by decide +kernel
theorem dX7_init_68 : decode cX7_init 68 = .ok (.invokespecial 43, 3) := by decide +kernel
theorem dX7_init_71 : decode cX7_init 71 = .ok (.putfield 44, 3) := by decide +kernel
theorem dX7_init_74 : decode cX7_init 74 = .ok (.aload_n 0, 1) := by decide +kernel
theorem dX7_init_75 : decode cX7_init 75 = .ok (.new 48, 3) := by decide +kernel
theorem dX7_init_78 : decode cX7_init 78 = .ok (.dup, 1) := by decide +kernel
theorem dX7_init_79 : decode cX7_init 79 = .ok (.invokespecial 50, 3) := by decide +kernel
theorem dX7_init_82 : decode cX7_init 82 = .ok (.putfield 51, 3) := by decide +kernel
theorem dX7_init_85 : decode cX7_init 85 = .ok (.aload_n 0, 1) := by decide +kernel
theorem dX7_init_86 : decode cX7_init 86 = .ok (.iconst 4, 1) := by decide +kernel
theorem dX7_init_87 : decode cX7_init 87 = .ok (.anewarray 55, 3) := by decide +kernel
theorem dX7_init_90 : decode cX7_init 90 = .ok (.putfield 57, 3) := by decide +kernel
theorem dX7_init_93 : decode cX7_init 93 = .ok (.aload_n 0, 1) := by decide +kernel
theorem dX7_init_94 : decode cX7_init 94 = .ok (.bipush 40, 2) := by decide +kernel
theorem dX7_init_96 : decode cX7_init 96 = .ok (.newarray .int, 2) := by decide +kernel
theorem dX7_init_98 : decode cX7_init 98 = .ok (.putfield 61, 3) := by decide +kernel
theorem dX7_init_101 : decode cX7_init 101 = .ok (.aload_n 0, 1) := by decide +kernel
theorem dX7_init_102 : decode cX7_init 102 = .ok (.iconst 0, 1) := by decide +kernel
theorem dX7_init_103 : decode cX7_init 103 = .ok (.putfield 65, 3) := by decide +kernel
theorem dX7_init_106 : decode cX7_init 106 = .ok (.iconst 0, 1) := by decide +kernel
theorem dX7_init_107 : decode cX7_init 107 = .ok (.istore_n 1, 1) := by decide +kernel
theorem dX7_init_108 : decode cX7_init 108 = .ok (.iload_n 1, 1) := by decide +kernel
theorem dX7_init_109 : decode cX7_init 109 = .ok (.iconst 2, 1) := by decide +kernel
theorem dX7_init_110 : decode cX7_init 110 = .ok (.if_icmp .ge 22, 3) := by decide +kernel
theorem dX7_init_113 : decode cX7_init 113 = .ok (.aload_n 0, 1) := by decide +kernel
theorem dX7_init_114 : decode cX7_init 114 = .ok (.getfield 19, 3) := by decide +kernel
theorem dX7_init_117 : decode cX7_init 117 = .ok (.iload_n 1, 1) := by decide +kernel
theorem dX7_init_118 : decode cX7_init 118 = .ok (.new 7, 3) := by decide +kernel
theorem dX7_init_121 : decode cX7_init 121 = .ok (.dup, 1) := by decide +kernel
theorem dX7_init_122 : decode cX7_init 122 = .ok (.invokespecial 9, 3) := by decide +kernel
theorem dX7_init_125 : decode cX7_init 125 = .ok (.aastore, 1) := by decide +kernel
theorem dX7_init_126 : decode cX7_init 126 = .ok (.iinc 1 1, 3) := by decide +kernel
theorem dX7_init_129 : decode cX7_init 129 = .ok (.goto (-21), 3) := by decide +kernel
theorem dX7_init_132 : decode cX7_init 132 = .ok (.iconst 0, 1) := by decide +kernel
theorem dX7_init_133 : decode cX7_init 133 = .ok (.istore_n 1, 1) := by decide +kernel
theorem dX7_init_134 : decode cX7_init 134 = .ok (.iload_n 1, 1) := by decide +kernel
theorem dX7_init_135 : decode cX7_init 135 = .ok (.iconst 4, 1) := by decide +kernel
theorem dX7_init_136 : decode cX7_init 136 = .ok (.if_icmp .ge 22, 3) := by decide +kernel
theorem dX7_init_139 : decode cX7_init 139 = .ok (.aload_n 0, 1) := by decide +kernel
theorem dX7_init_140 : decode cX7_init 140 = .ok (.getfield 57, 3) := by decide +kernel
theorem dX7_init_143 : decode cX7_init 143 = .ok (.iload_n 1, 1) := by decide +kernel
theorem dX7_init_144 : decode cX7_init 144 = .ok (.new 55, 3) := by decide +kernel
theorem dX7_init_147 : decode cX7_init 147 = .ok (.dup, 1) := by decide +kernel
theorem dX7_init_148 : decode cX7_init 148 = .ok (.invokespecial 69, 3) := by decide +kernel
theorem dX7_init_151 : decode cX7_init 151 = .ok (.aastore, 1) := by decide +kernel
theorem dX7_init_152 : decode cX7_init 152 = .ok (.iinc 1 1, 3) := by decide +kernel
theorem dX7_init_155 : decode cX7_init 155 = .ok (.goto (-21), 3) := by decide +kernel
theorem dX7_init_158 : decode cX7_init 158 = .ok (.return_, 1) := by decide +kernel
theorem dX7_feed_0 : decode cX7_feed 0 = .ok (.iload_n 1, 1) := by decide +kernel
theorem dX7_feed_1 : decode cX7_feed 1 = .ok (.ifCond .lt 9, 3) := by decide +kernel
theorem dX7_feed_4 : decode cX7_feed 4 = .ok (.iload_n 1, 1) := by decide +kernel
theorem dX7_feed_5 : decode cX7_feed 5 = .ok (.bipush 127, 2) := by decide +kernel
theorem dX7_feed_7 : decode cX7_feed 7 = .ok (.if_icmp .le 5, 3) := by decide +kernel
theorem dX7_feed_10 : decode cX7_feed 10 = .ok (.iconst (-1), 1) := by decide +kernel
theorem dX7_feed_11 : decode cX7_feed 11 = .ok (.ireturn, 1) := by decide +kernel
theorem dX7_feed_12 : decode cX7_feed 12 = .ok (.aload_n 0, 1) := by decide +kernel
theorem dX7_feed_13 : decode cX7_feed 13 = .ok (.getfield 30, 3) := by decide +kernel
theorem dX7_feed_16 : decode cX7_feed 16 = .ok (.getfield 70, 3) := by decide +kernel
theorem dX7_feed_19 : decode cX7_feed 19 = .ok (.sipush 320, 3) := by decide +kernel
theorem dX7_feed_22 : decode cX7_feed 22 = .ok (.if_icmp .lt 6, 3) := by decide +kernel
theorem dX7_feed_25 : decode cX7_feed 25 = .ok (.bipush (-3), 2) := by decide +kernel
theorem dX7_feed_27 : decode cX7_feed 27 = .ok (.ireturn, 1) := by decide +kernel
theorem dX7_feed_28 : decode cX7_feed 28 = .ok (.aload_n 0, 1) := by decide +kernel
theorem dX7_feed_29 : decode cX7_feed 29 = .ok (.getfield 30, 3) := by decide +kernel
theorem dX7_feed_32 : decode cX7_feed 32 = .ok (.getfield 73, 3) := by decide +kernel
theorem dX7_feed_35 : decode cX7_feed 35 = .ok (.aload_n 0, 1) := by decide +kernel
theorem dX7_feed_36 : decode cX7_feed 36 = .ok (.getfield 30, 3) := by decide +kernel
theorem dX7_feed_39 : decode cX7_feed 39 = .ok (.getfield 70, 3) := by decide +kernel
theorem dX7_feed_42 : decode cX7_feed 42 = .ok (.iload_n 1, 1) := by decide +kernel
theorem dX7_feed_43 : decode cX7_feed 43 = .ok (.iastore, 1) := by decide +kernel
theorem dX7_feed_44 : decode cX7_feed 44 = .ok (.aload_n 0, 1) := by decide +kernel
theorem dX7_feed_45 : decode cX7_feed 45 = .ok (.getfield 30, 3) := by decide +kernel
theorem dX7_feed_48 : decode cX7_feed 48 = .ok (.dup, 1) := by decide +kernel
theorem dX7_feed_49 : decode cX7_feed 49 = .ok (.getfield 70, 3) := by decide +kernel
theorem dX7_feed_52 : decode cX7_feed 52 = .ok (.iconst 1, 1) := by decide +kernel
theorem dX7_feed_53 : decode cX7_feed 53 = .ok (.iadd, 1) := by decide +kernel
theorem dX7_feed_54 : decode cX7_feed 54 = .ok (.putfield 70, 3) := by decide +kernel
theorem dX7_feed_57 : decode cX7_feed 57 = .ok (.aload_n 0, 1) := by decide +kernel
theorem dX7_feed_58 : decode cX7_feed 58 = .ok (.getfield 30, 3) := by decide +kernel
theorem dX7_feed_61 : decode cX7_feed 61 = .ok (.getfield 70, 3) := by decide +kernel
theorem dX7_feed_64 : decode cX7_feed 64 = .ok (.ireturn, 1) := by decide +kernel
theorem dX7_end_0 : decode cX7_end 0 = .ok (.iload_n 1, 1) := by decide +kernel
theorem dX7_end_1 : decode cX7_end 1 = .ok (.ifCond .lt 14, 3) := by decide +kernel
theorem dX7_end_4 : decode cX7_end 4 = .ok (.iload_n 1, 1) := by decide +kernel
theorem dX7_end_5 : decode cX7_end 5 = .ok (.aload_n 0, 1) := by decide +kernel
theorem dX7_end_6 : decode cX7_end 6 = .ok (.getfield 30, 3) := by decide +kernel
theorem dX7_end_9 : decode cX7_end 9 = .ok (.getfield 70, 3) := by decide +kernel
theorem dX7_end_12 : decode cX7_end 12 = .ok (.if_icmp .le 5, 3) := by decide +kernel
theorem dX7_end_15 : decode cX7_end 15 = .ok (.iconst (-1), 1) := by decide +kernel
theorem dX7_end_16 : decode cX7_end 16 = .ok (.ireturn, 1) := by decide +kernel
theorem dX7_end_17 : decode cX7_end 17 = .ok (.aload_n 0, 1) := by decide +kernel
theorem dX7_end_18 : decode cX7_end 18 = .ok (.getfield 30, 3) := by decide +kernel
theorem dX7_end_21 : decode cX7_end 21 = .ok (.getfield 70, 3) := by decide +kernel
theorem dX7_end_24 : decode cX7_end 24 = .ok (.istore_n 2, 1) := by decide +kernel
theorem dX7_end_25 : decode cX7_end 25 = .ok (.aload_n 0, 1) := by decide +kernel
theorem dX7_end_26 : decode cX7_end 26 = .ok (.getfield 30, 3) := by decide +kernel
theorem dX7_end_29 : decode cX7_end 29 = .ok (.iload_n 1, 1) := by decide +kernel
theorem dX7_end_30 : decode cX7_end 30 = .ok (.putfield 70, 3) := by decide +kernel
theorem dX7_end_33 : decode cX7_end 33 = .ok (.iload_n 2, 1) := by decide +kernel
theorem dX7_end_34 : decode cX7_end 34 = .ok (.ireturn, 1) := by decide +kernel
set_option maxRecDepth 20000 in
theorem ggX7_text_X4_tellAll : GoodIn wsX7_text wsX4_tellAll := goodIn_r _ [10, 11, 12, 13, 14, 15, 16, 17, 18, 19, 20, 21, 22, 23, 24, 25, 26, 27, 9, 28, 29, 30, 31, 32, 33, 34, 35, 36, 37, 38, 39, 40, 41, 42, 43, 44, 45, 46, 47, 48, 49, 50, 51, 52, 53, 54, 55, 56, 57, 58, 59, 60, 61, 62, 63, 64, 65, 66, 67, 68, 69, 70, 71, 72, 73, 74, 75, 76, 77, 78, 79, 80, 81, 82, 83, 84, 85, 86, 87, 88, 89, 90, 91, 92, 93, 94, 95, 96, 97, 98, 99, 100, 101, 102, 103, 104, 105, 106, 107, 108, 109, 110, 111, 112, 113, 114, 115, 116, 117, 118, 119, 120, 121, 122, 123, 124, 125, 126, 127, 128, 129, 130, 131, 132, 133, 134, 135, 136, 137, 138, 139, 140, 141, 142, 143, 144, 145, 146, 147, 148, 149, 150, 151, 152, 153, 154, 155, 156, 157, 158, 159, 160, 161, 162, 163, 164, 165, 166, 167, 168, 169, 170, 201, 202, 203, 204, 205, 206, 207, 208, 209, 210, 211, 212, 213, 214, 215, 216, 217, 218] rfl rfl
set_option maxRecDepth 20000 in
theorem gX7_text_X4_tellAll : GoodIn wsX7_text (wsV RX7 76 RX4 yX4_tellAll wsX4_tellAll) := goodIn_app (goodIn_of _ (by decide +kernel)) ggX7_text_X4_tellAll
set_option maxRecDepth 20000 in
theorem ggX7_text_X6_takeTables : GoodIn wsX7_text wsX6_takeTables := goodIn_r _ [174, 21, 22, 23, 24, 175, 176, 177, 128, 178, 132, 179, 180, 181, 182, 130, 210, 211, 212, 213, 214, 215, 216, 217, 218] rfl rfl
set_option maxRecDepth 20000 in
theorem gX7_text_X6_takeTables : GoodIn wsX7_text (wsV RX7 80 RX6 yX6_takeTables wsX6_takeTables) := goodIn_app (goodIn_of _ (by decide +kernel)) ggX7_text_X6_takeTables
set_option maxRecDepth 20000 in
theorem ggX7_text_X5_forget : GoodIn wsX7_text wsX5_forget := goodIn_r _ [187, 188, 189, 219, 220, 221, 222, 223, 224, 225, 226, 227] rfl rfl
set_option maxRecDepth 20000 in
theorem gX7_text_X5_forget : GoodIn wsX7_text (wsV RX7 84 RX5 yX5_forget wsX5_forget) := goodIn_app (goodIn_of _ (by decide +kernel)) ggX7_text_X5_forget
theorem dX7_text_0 : decode cX7_text 0 = .ok (.aload_n 0, 1) := by decide +kernel
theorem dX7_text_1 : decode cX7_text 1 = .ok (.getfield 30, 3) := by decide +kernel
theorem dX7_text_4 : decode cX7_text 4 = .ok (.aload_n 0, 1) := by decide +kernel
theorem dX7_text_5 : decode cX7_text 5 = .ok (.getfield 16, 3) := by decide +kernel
theorem dX7_text_8 : decode cX7_text 8 = .ok (.invokevirtual 76, 3) := by decide +kernel
theorem dX7_text_11 : decode cX7_text 11 = .ok (.istore_n 1, 1) := by decide +kernel
theorem dX7_text_12 : decode cX7_text 12 = .ok (.aload_n 0, 1) := by decide +kernel
theorem dX7_text_13 : decode cX7_text 13 = .ok (.getfield 30, 3) := by decide +kernel
theorem dX7_text_16 : decode cX7_text 16 = .ok (.iconst 0, 1) := by decide +kernel
theorem dX7_text_17 : decode cX7_text 17 = .ok (.putfield 70, 3) := by decide +kernel
theorem dX7_text_20 : decode cX7_text 20 = .ok (.iload_n 1, 1) := by decide +kernel
theorem dX7_text_21 : decode cX7_text 21 = .ok (.ifCond .lt 41, 3) := by decide +kernel
theorem dX7_text_24 : decode cX7_text 24 = .ok (.aload_n 0, 1) := by decide +kernel
theorem dX7_text_25 : decode cX7_text 25 = .ok (.getfield 10, 3) := by decide +kernel
theorem dX7_text_28 : decode cX7_text 28 = .ok (.aload_n 0, 1) := by decide +kernel
theorem dX7_text_29 : decode cX7_text 29 = .ok (.getfield 16, 3) := by decide +kernel
theorem dX7_text_32 : decode cX7_text 32 = .ok (.invokevirtual 80, 3) := by decide +kernel
theorem dX7_text_35 : decode cX7_text 35 = .ok (.aload_n 0, 1) := by decide +kernel
theorem dX7_text_36 : decode cX7_text 36 = .ok (.getfield 44, 3) := by decide +kernel
theorem dX7_text_39 : decode cX7_text 39 = .ok (.invokevirtual 84, 3) := by decide +kernel
theorem dX7_text_42 : decode cX7_text 42 = .ok (.iconst 0, 1) := by decide +kernel
theorem dX7_text_43 : decode cX7_text 43 = .ok (.istore_n 2, 1) := by decide +kernel
theorem dX7_text_44 : decode cX7_text 44 = .ok (.iload_n 2, 1) := by decide +kernel
theorem dX7_text_45 : decode cX7_text 45 = .ok (.iconst 2, 1) := by decide +kernel
theorem dX7_text_46 : decode cX7_text 46 = .ok (.if_icmp .ge 16, 3) := by decide +kernel
theorem dX7_text_49 : decode cX7_text 49 = .ok (.aload_n 0, 1) := by decide +kernel
theorem dX7_text_50 : decode cX7_text 50 = .ok (.getfield 23, 3) := by decide +kernel
theorem dX7_text_53 : decode cX7_text 53 = .ok (.iload_n 2, 1) := by decide +kernel
theorem dX7_text_54 : decode cX7_text 54 = .ok (.iconst 0, 1) := by decide +kernel
theorem dX7_text_55 : decode cX7_text 55 = .ok (.bastore, 1) := by decide +kernel
theorem dX7_text_56 : decode cX7_text 56 = .ok (.iinc 2 1, 3) := by decide +kernel
theorem dX7_text_59 : decode cX7_text 59 = .ok (.goto (-15), 3) := by decide +kernel
theorem dX7_text_62 : decode cX7_text 62 = .ok (.iload_n 1, 1) := by decide +kernel
theorem dX7_text_63 : decode cX7_text 63 = .ok (.ireturn, 1) := by decide +kernel
theorem dX7_fault_0 : decode cX7_fault 0 = .ok (.aload_n 0, 1) := by decide +kernel
theorem dX7_fault_1 : decode cX7_fault 1 = .ok (.getfield 30, 3) := by decide +kernel
theorem dX7_fault_4 : decode cX7_fault 4 = .ok (.getfield 87, 3) := by decide +kernel
theorem dX7_fault_7 : decode cX7_fault 7 = .ok (.ireturn, 1) := by decide +kernel
set_option maxRecDepth 20000 in
theorem ggX7_rule_X6_addressesHad : GoodIn wsX7_rule wsX6_addressesHad := goodIn_r _ [7, 8, 9, 10, 11, 12, 13, 14, 15, 16, 28, 29, 30, 31, 32, 33, 34, 35, 36] rfl rfl
set_option maxRecDepth 20000 in
theorem gX7_rule_X6_addressesHad : GoodIn wsX7_rule (wsV RX7 119 RX6 yX6_addressesHad wsX6_addressesHad) := goodIn_app (goodIn_of _ (by decide +kernel)) ggX7_rule_X6_addressesHad
theorem dX7_rule_0 : decode cX7_rule 0 = .ok (.iload_n 1, 1) := by decide +kernel
theorem dX7_rule_1 : decode cX7_rule 1 = .ok (.tableswitch 168 0 7 #[47, 58, 69, 80, 91, 114, 137, 160], 47) := by decide +kernel
theorem dX7_rule_48 : decode cX7_rule 48 = .ok (.aload_n 0, 1) := by decide +kernel
theorem dX7_rule_49 : decode cX7_rule 49 = .ok (.getfield 10, 3) := by decide +kernel
theorem dX7_rule_52 : decode cX7_rule 52 = .ok (.getfield 90, 3) := by decide +kernel
theorem dX7_rule_55 : decode cX7_rule 55 = .ok (.getfield 94, 3) := by decide +kernel
theorem dX7_rule_58 : decode cX7_rule 58 = .ok (.ireturn, 1) := by decide +kernel
theorem dX7_rule_59 : decode cX7_rule 59 = .ok (.aload_n 0, 1) := by decide +kernel
theorem dX7_rule_60 : decode cX7_rule 60 = .ok (.getfield 10, 3) := by decide +kernel
theorem dX7_rule_63 : decode cX7_rule 63 = .ok (.getfield 99, 3) := by decide +kernel
theorem dX7_rule_66 : decode cX7_rule 66 = .ok (.getfield 94, 3) := by decide +kernel
theorem dX7_rule_69 : decode cX7_rule 69 = .ok (.ireturn, 1) := by decide +kernel
theorem dX7_rule_70 : decode cX7_rule 70 = .ok (.aload_n 0, 1) := by decide +kernel
theorem dX7_rule_71 : decode cX7_rule 71 = .ok (.getfield 10, 3) := by decide +kernel
theorem dX7_rule_74 : decode cX7_rule 74 = .ok (.getfield 102, 3) := by decide +kernel
theorem dX7_rule_77 : decode cX7_rule 77 = .ok (.getfield 94, 3) := by decide +kernel
theorem dX7_rule_80 : decode cX7_rule 80 = .ok (.ireturn, 1) := by decide +kernel
theorem dX7_rule_81 : decode cX7_rule 81 = .ok (.aload_n 0, 1) := by decide +kernel
theorem dX7_rule_82 : decode cX7_rule 82 = .ok (.getfield 10, 3) := by decide +kernel
theorem dX7_rule_85 : decode cX7_rule 85 = .ok (.getfield 105, 3) := by decide +kernel
theorem dX7_rule_88 : decode cX7_rule 88 = .ok (.getfield 94, 3) := by decide +kernel
theorem dX7_rule_91 : decode cX7_rule 91 = .ok (.ireturn, 1) := by decide +kernel
theorem dX7_rule_92 : decode cX7_rule 92 = .ok (.aload_n 0, 1) := by decide +kernel
theorem dX7_rule_93 : decode cX7_rule 93 = .ok (.getfield 44, 3) := by decide +kernel
theorem dX7_rule_96 : decode cX7_rule 96 = .ok (.getfield 108, 3) := by decide +kernel
theorem dX7_rule_99 : decode cX7_rule 99 = .ok (.ifCond .eq 13, 3) := by decide +kernel
theorem dX7_rule_102 : decode cX7_rule 102 = .ok (.aload_n 0, 1) := by decide +kernel
theorem dX7_rule_103 : decode cX7_rule 103 = .ok (.getfield 44, 3) := by decide +kernel
theorem dX7_rule_106 : decode cX7_rule 106 = .ok (.getfield 112, 3) := by decide +kernel
theorem dX7_rule_109 : decode cX7_rule 109 = .ok (.goto 5, 3) := by decide +kernel
theorem dX7_rule_112 : decode cX7_rule 112 = .ok (.bipush (-4), 2) := by decide +kernel
theorem dX7_rule_114 : decode cX7_rule 114 = .ok (.ireturn, 1) := by decide +kernel
theorem dX7_rule_115 : decode cX7_rule 115 = .ok (.aload_n 0, 1) := by decide +kernel
theorem dX7_rule_116 : decode cX7_rule 116 = .ok (.getfield 44, 3) := by decide +kernel
theorem dX7_rule_119 : decode cX7_rule 119 = .ok (.getfield 108, 3) := by decide +kernel
theorem dX7_rule_122 : decode cX7_rule 122 = .ok (.ifCond .eq 13, 3) := by decide +kernel
theorem dX7_rule_125 : decode cX7_rule 125 = .ok (.aload_n 0, 1) := by decide +kernel
theorem dX7_rule_126 : decode cX7_rule 126 = .ok (.getfield 44, 3) := by decide +kernel
theorem dX7_rule_129 : decode cX7_rule 129 = .ok (.getfield 113, 3) := by decide +kernel
theorem dX7_rule_132 : decode cX7_rule 132 = .ok (.goto 5, 3) := by decide +kernel
theorem dX7_rule_135 : decode cX7_rule 135 = .ok (.bipush (-4), 2) := by decide +kernel
theorem dX7_rule_137 : decode cX7_rule 137 = .ok (.ireturn, 1) := by decide +kernel
theorem dX7_rule_138 : decode cX7_rule 138 = .ok (.aload_n 0, 1) := by decide +kernel
theorem dX7_rule_139 : decode cX7_rule 139 = .ok (.getfield 44, 3) := by decide +kernel
theorem dX7_rule_142 : decode cX7_rule 142 = .ok (.getfield 108, 3) := by decide +kernel
theorem dX7_rule_145 : decode cX7_rule 145 = .ok (.ifCond .eq 13, 3) := by decide +kernel
theorem dX7_rule_148 : decode cX7_rule 148 = .ok (.aload_n 0, 1) := by decide +kernel
theorem dX7_rule_149 : decode cX7_rule 149 = .ok (.getfield 44, 3) := by decide +kernel
theorem dX7_rule_152 : decode cX7_rule 152 = .ok (.getfield 116, 3) := by decide +kernel
theorem dX7_rule_155 : decode cX7_rule 155 = .ok (.goto 5, 3) := by decide +kernel
theorem dX7_rule_158 : decode cX7_rule 158 = .ok (.bipush (-4), 2) := by decide +kernel
theorem dX7_rule_160 : decode cX7_rule 160 = .ok (.ireturn, 1) := by decide +kernel
theorem dX7_rule_161 : decode cX7_rule 161 = .ok (.aload_n 0, 1) := by decide +kernel
theorem dX7_rule_162 : decode cX7_rule 162 = .ok (.getfield 10, 3) := by decide +kernel
theorem dX7_rule_165 : decode cX7_rule 165 = .ok (.invokevirtual 119, 3) := by decide +kernel
theorem dX7_rule_168 : decode cX7_rule 168 = .ok (.ireturn, 1) := by decide +kernel
theorem dX7_rule_169 : decode cX7_rule 169 = .ok (.iconst (-1), 1) := by decide +kernel
theorem dX7_rule_170 : decode cX7_rule 170 = .ok (.ireturn, 1) := by decide +kernel
set_option maxRecDepth 20000 in
theorem ggX7_routine_X3_has : GoodIn wsX7_routine wsX3_has := goodIn_r _ [6, 7, 44, 45, 46] rfl rfl
set_option maxRecDepth 20000 in
theorem gX7_routine_X3_has : GoodIn wsX7_routine (wsV RX7 123 RX3 yX3_has wsX3_has) := goodIn_app (goodIn_of _ (by decide +kernel)) ggX7_routine_X3_has
set_option maxRecDepth 20000 in
theorem ggX7_routine_X3_at : GoodIn wsX7_routine wsX3_at := goodIn_r _ [11, 7, 12, 13, 44, 45, 46] rfl rfl
set_option maxRecDepth 20000 in
theorem gX7_routine_X3_at : GoodIn wsX7_routine (wsV RX7 127 RX3 yX3_at wsX3_at) := goodIn_app (goodIn_of _ (by decide +kernel)) ggX7_routine_X3_at
set_option maxRecDepth 20000 in
theorem ggX7_routine_X3_howMany : GoodIn wsX7_routine wsX3_howMany := goodIn_r _ [17, 7, 18, 9, 10, 5, 11, 12, 13, 44, 45, 46] rfl rfl
set_option maxRecDepth 20000 in
theorem gX7_routine_X3_howMany : GoodIn wsX7_routine (wsV RX7 131 RX3 yX3_howMany wsX3_howMany) := goodIn_app (goodIn_of _ (by decide +kernel)) ggX7_routine_X3_howMany
set_option maxRecDepth 20000 in
theorem ggX7_routine_X3_rankOf : GoodIn wsX7_routine wsX3_rankOf := goodIn_r _ [22, 7, 18, 9, 10, 5, 11, 12, 13, 23, 24, 25, 26, 44, 45, 46] rfl rfl
set_option maxRecDepth 20000 in
theorem gX7_routine_X3_rankOf : GoodIn wsX7_routine (wsV RX7 134 RX3 yX3_rankOf wsX3_rankOf) := goodIn_app (goodIn_of _ (by decide +kernel)) ggX7_routine_X3_rankOf
theorem dX7_routine_0 : decode cX7_routine 0 = .ok (.aload_n 0, 1) := by decide +kernel
theorem dX7_routine_1 : decode cX7_routine 1 = .ok (.getfield 10, 3) := by decide +kernel
theorem dX7_routine_4 : decode cX7_routine 4 = .ok (.getfield 90, 3) := by decide +kernel
theorem dX7_routine_7 : decode cX7_routine 7 = .ok (.iload_n 1, 1) := by decide +kernel
theorem dX7_routine_8 : decode cX7_routine 8 = .ok (.invokevirtual 123, 3) := by decide +kernel
theorem dX7_routine_11 : decode cX7_routine 11 = .ok (.ifCond .ne 5, 3) := by decide +kernel
theorem dX7_routine_14 : decode cX7_routine 14 = .ok (.iconst (-1), 1) := by decide +kernel
theorem dX7_routine_15 : decode cX7_routine 15 = .ok (.ireturn, 1) := by decide +kernel
theorem dX7_routine_16 : decode cX7_routine 16 = .ok (.iload_n 2, 1) := by decide +kernel
theorem dX7_routine_17 : decode cX7_routine 17 = .ok (.tableswitch 91 0 5 #[39, 39, 39, 52, 65, 78], 39) := by decide +kernel
theorem dX7_routine_56 : decode cX7_routine 56 = .ok (.aload_n 0, 1) := by decide +kernel
theorem dX7_routine_57 : decode cX7_routine 57 = .ok (.getfield 10, 3) := by decide +kernel
theorem dX7_routine_60 : decode cX7_routine 60 = .ok (.getfield 90, 3) := by decide +kernel
theorem dX7_routine_63 : decode cX7_routine 63 = .ok (.iload_n 1, 1) := by decide +kernel
theorem dX7_routine_64 : decode cX7_routine 64 = .ok (.iload_n 2, 1) := by decide +kernel
theorem dX7_routine_65 : decode cX7_routine 65 = .ok (.invokevirtual 127, 3) := by decide +kernel
theorem dX7_routine_68 : decode cX7_routine 68 = .ok (.ireturn, 1) := by decide +kernel
theorem dX7_routine_69 : decode cX7_routine 69 = .ok (.aload_n 0, 1) := by decide +kernel
theorem dX7_routine_70 : decode cX7_routine 70 = .ok (.getfield 10, 3) := by decide +kernel
theorem dX7_routine_73 : decode cX7_routine 73 = .ok (.getfield 99, 3) := by decide +kernel
theorem dX7_routine_76 : decode cX7_routine 76 = .ok (.iconst 3, 1) := by decide +kernel
theorem dX7_routine_77 : decode cX7_routine 77 = .ok (.iload_n 1, 1) := by decide +kernel
theorem dX7_routine_78 : decode cX7_routine 78 = .ok (.invokevirtual 131, 3) := by decide +kernel
theorem dX7_routine_81 : decode cX7_routine 81 = .ok (.ireturn, 1) := by decide +kernel
theorem dX7_routine_82 : decode cX7_routine 82 = .ok (.aload_n 0, 1) := by decide +kernel
theorem dX7_routine_83 : decode cX7_routine 83 = .ok (.getfield 10, 3) := by decide +kernel
theorem dX7_routine_86 : decode cX7_routine 86 = .ok (.getfield 102, 3) := by decide +kernel
theorem dX7_routine_89 : decode cX7_routine 89 = .ok (.iconst 4, 1) := by decide +kernel
theorem dX7_routine_90 : decode cX7_routine 90 = .ok (.iload_n 1, 1) := by decide +kernel
theorem dX7_routine_91 : decode cX7_routine 91 = .ok (.invokevirtual 131, 3) := by decide +kernel
theorem dX7_routine_94 : decode cX7_routine 94 = .ok (.ireturn, 1) := by decide +kernel
theorem dX7_routine_95 : decode cX7_routine 95 = .ok (.aload_n 0, 1) := by decide +kernel
theorem dX7_routine_96 : decode cX7_routine 96 = .ok (.getfield 10, 3) := by decide +kernel
theorem dX7_routine_99 : decode cX7_routine 99 = .ok (.getfield 90, 3) := by decide +kernel
theorem dX7_routine_102 : decode cX7_routine 102 = .ok (.iload_n 1, 1) := by decide +kernel
theorem dX7_routine_103 : decode cX7_routine 103 = .ok (.iconst 0, 1) := by decide +kernel
theorem dX7_routine_104 : decode cX7_routine 104 = .ok (.invokevirtual 134, 3) := by decide +kernel
theorem dX7_routine_107 : decode cX7_routine 107 = .ok (.ireturn, 1) := by decide +kernel
theorem dX7_routine_108 : decode cX7_routine 108 = .ok (.iconst (-1), 1) := by decide +kernel
theorem dX7_routine_109 : decode cX7_routine 109 = .ok (.ireturn, 1) := by decide +kernel
set_option maxRecDepth 20000 in
theorem ggX7_op_X3_has : GoodIn wsX7_op wsX3_has := goodIn_r _ [6, 7, 31, 32, 33] rfl rfl
set_option maxRecDepth 20000 in
theorem gX7_op_X3_has : GoodIn wsX7_op (wsV RX7 123 RX3 yX3_has wsX3_has) := goodIn_app (goodIn_of _ (by decide +kernel)) ggX7_op_X3_has
set_option maxRecDepth 20000 in
theorem ggX7_op_X3_at : GoodIn wsX7_op wsX3_at := goodIn_r _ [11, 7, 12, 13, 31, 32, 33] rfl rfl
set_option maxRecDepth 20000 in
theorem gX7_op_X3_at : GoodIn wsX7_op (wsV RX7 127 RX3 yX3_at wsX3_at) := goodIn_app (goodIn_of _ (by decide +kernel)) ggX7_op_X3_at
theorem dX7_op_0 : decode cX7_op 0 = .ok (.aload_n 0, 1) := by decide +kernel
theorem dX7_op_1 : decode cX7_op 1 = .ok (.getfield 10, 3) := by decide +kernel
theorem dX7_op_4 : decode cX7_op 4 = .ok (.getfield 99, 3) := by decide +kernel
theorem dX7_op_7 : decode cX7_op 7 = .ok (.iload_n 1, 1) := by decide +kernel
theorem dX7_op_8 : decode cX7_op 8 = .ok (.invokevirtual 123, 3) := by decide +kernel
theorem dX7_op_11 : decode cX7_op 11 = .ok (.ifCond .eq 12, 3) := by decide +kernel
theorem dX7_op_14 : decode cX7_op 14 = .ok (.iload_n 2, 1) := by decide +kernel
theorem dX7_op_15 : decode cX7_op 15 = .ok (.ifCond .lt 8, 3) := by decide +kernel
theorem dX7_op_18 : decode cX7_op 18 = .ok (.iload_n 2, 1) := by decide +kernel
theorem dX7_op_19 : decode cX7_op 19 = .ok (.iconst 4, 1) := by decide +kernel
theorem dX7_op_20 : decode cX7_op 20 = .ok (.if_icmp .lt 5, 3) := by decide +kernel
theorem dX7_op_23 : decode cX7_op 23 = .ok (.iconst (-1), 1) := by decide +kernel
theorem dX7_op_24 : decode cX7_op 24 = .ok (.ireturn, 1) := by decide +kernel
theorem dX7_op_25 : decode cX7_op 25 = .ok (.aload_n 0, 1) := by decide +kernel
theorem dX7_op_26 : decode cX7_op 26 = .ok (.getfield 10, 3) := by decide +kernel
theorem dX7_op_29 : decode cX7_op 29 = .ok (.getfield 99, 3) := by decide +kernel
theorem dX7_op_32 : decode cX7_op 32 = .ok (.iload_n 1, 1) := by decide +kernel
theorem dX7_op_33 : decode cX7_op 33 = .ok (.iload_n 2, 1) := by decide +kernel
theorem dX7_op_34 : decode cX7_op 34 = .ok (.invokevirtual 127, 3) := by decide +kernel
theorem dX7_op_37 : decode cX7_op 37 = .ok (.ireturn, 1) := by decide +kernel
set_option maxRecDepth 20000 in
theorem ggX7_landing_X3_has : GoodIn wsX7_landing wsX3_has := goodIn_r _ [6, 7, 31, 32, 33] rfl rfl
set_option maxRecDepth 20000 in
theorem gX7_landing_X3_has : GoodIn wsX7_landing (wsV RX7 123 RX3 yX3_has wsX3_has) := goodIn_app (goodIn_of _ (by decide +kernel)) ggX7_landing_X3_has
set_option maxRecDepth 20000 in
theorem ggX7_landing_X3_at : GoodIn wsX7_landing wsX3_at := goodIn_r _ [11, 7, 12, 13, 31, 32, 33] rfl rfl
set_option maxRecDepth 20000 in
theorem gX7_landing_X3_at : GoodIn wsX7_landing (wsV RX7 127 RX3 yX3_at wsX3_at) := goodIn_app (goodIn_of _ (by decide +kernel)) ggX7_landing_X3_at
theorem dX7_landing_0 : decode cX7_landing 0 = .ok (.aload_n 0, 1) := by decide +kernel
theorem dX7_landing_1 : decode cX7_landing 1 = .ok (.getfield 10, 3) := by decide +kernel
theorem dX7_landing_4 : decode cX7_landing 4 = .ok (.getfield 102, 3) := by decide +kernel
theorem dX7_landing_7 : decode cX7_landing 7 = .ok (.iload_n 1, 1) := by decide +kernel
theorem dX7_landing_8 : decode cX7_landing 8 = .ok (.invokevirtual 123, 3) := by decide +kernel
theorem dX7_landing_11 : decode cX7_landing 11 = .ok (.ifCond .eq 12, 3) := by decide +kernel
theorem dX7_landing_14 : decode cX7_landing 14 = .ok (.iload_n 2, 1) := by decide +kernel
theorem dX7_landing_15 : decode cX7_landing 15 = .ok (.ifCond .lt 8, 3) := by decide +kernel
theorem dX7_landing_18 : decode cX7_landing 18 = .ok (.iload_n 2, 1) := by decide +kernel
theorem dX7_landing_19 : decode cX7_landing 19 = .ok (.iconst 5, 1) := by decide +kernel
theorem dX7_landing_20 : decode cX7_landing 20 = .ok (.if_icmp .lt 5, 3) := by decide +kernel
theorem dX7_landing_23 : decode cX7_landing 23 = .ok (.iconst (-1), 1) := by decide +kernel
theorem dX7_landing_24 : decode cX7_landing 24 = .ok (.ireturn, 1) := by decide +kernel
theorem dX7_landing_25 : decode cX7_landing 25 = .ok (.aload_n 0, 1) := by decide +kernel
theorem dX7_landing_26 : decode cX7_landing 26 = .ok (.getfield 10, 3) := by decide +kernel
theorem dX7_landing_29 : decode cX7_landing 29 = .ok (.getfield 102, 3) := by decide +kernel
theorem dX7_landing_32 : decode cX7_landing 32 = .ok (.iload_n 1, 1) := by decide +kernel
theorem dX7_landing_33 : decode cX7_landing 33 = .ok (.iload_n 2, 1) := by decide +kernel
theorem dX7_landing_34 : decode cX7_landing 34 = .ok (.invokevirtual 127, 3) := by decide +kernel
theorem dX7_landing_37 : decode cX7_landing 37 = .ok (.ireturn, 1) := by decide +kernel
set_option maxRecDepth 20000 in
theorem ggX7_call_X3_has : GoodIn wsX7_call wsX3_has := goodIn_r _ [6, 7, 44, 45, 46] rfl rfl
set_option maxRecDepth 20000 in
theorem gX7_call_X3_has : GoodIn wsX7_call (wsV RX7 123 RX3 yX3_has wsX3_has) := goodIn_app (goodIn_of _ (by decide +kernel)) ggX7_call_X3_has
set_option maxRecDepth 20000 in
theorem ggX7_call_X3_ranked : GoodIn wsX7_call wsX3_ranked := goodIn_r _ [11, 7, 12, 13, 14, 5, 15, 16, 17, 18, 19, 20, 21, 22, 23, 24, 25, 44, 45, 46] rfl rfl
set_option maxRecDepth 20000 in
theorem gX7_call_X3_ranked : GoodIn wsX7_call (wsV RX7 137 RX3 yX3_ranked wsX3_ranked) := goodIn_app (goodIn_of _ (by decide +kernel)) ggX7_call_X3_ranked
set_option maxRecDepth 20000 in
theorem ggX7_call_X3_at : GoodIn wsX7_call wsX3_at := goodIn_r _ [19, 7, 20, 21, 44, 45, 46] rfl rfl
set_option maxRecDepth 20000 in
theorem gX7_call_X3_at : GoodIn wsX7_call (wsV RX7 127 RX3 yX3_at wsX3_at) := goodIn_app (goodIn_of _ (by decide +kernel)) ggX7_call_X3_at
theorem dX7_call_0 : decode cX7_call 0 = .ok (.aload_n 0, 1) := by decide +kernel
theorem dX7_call_1 : decode cX7_call 1 = .ok (.getfield 10, 3) := by decide +kernel
theorem dX7_call_4 : decode cX7_call 4 = .ok (.getfield 105, 3) := by decide +kernel
theorem dX7_call_7 : decode cX7_call 7 = .ok (.iload_n 1, 1) := by decide +kernel
theorem dX7_call_8 : decode cX7_call 8 = .ok (.invokevirtual 123, 3) := by decide +kernel
theorem dX7_call_11 : decode cX7_call 11 = .ok (.ifCond .eq 12, 3) := by decide +kernel
theorem dX7_call_14 : decode cX7_call 14 = .ok (.iload_n 2, 1) := by decide +kernel
theorem dX7_call_15 : decode cX7_call 15 = .ok (.ifCond .lt 8, 3) := by decide +kernel
theorem dX7_call_18 : decode cX7_call 18 = .ok (.iload_n 2, 1) := by decide +kernel
theorem dX7_call_19 : decode cX7_call 19 = .ok (.iconst 2, 1) := by decide +kernel
theorem dX7_call_20 : decode cX7_call 20 = .ok (.if_icmp .le 5, 3) := by decide +kernel
theorem dX7_call_23 : decode cX7_call 23 = .ok (.iconst (-1), 1) := by decide +kernel
theorem dX7_call_24 : decode cX7_call 24 = .ok (.ireturn, 1) := by decide +kernel
theorem dX7_call_25 : decode cX7_call 25 = .ok (.aload_n 0, 1) := by decide +kernel
theorem dX7_call_26 : decode cX7_call 26 = .ok (.getfield 10, 3) := by decide +kernel
theorem dX7_call_29 : decode cX7_call 29 = .ok (.getfield 105, 3) := by decide +kernel
theorem dX7_call_32 : decode cX7_call 32 = .ok (.iload_n 1, 1) := by decide +kernel
theorem dX7_call_33 : decode cX7_call 33 = .ok (.iconst 0, 1) := by decide +kernel
theorem dX7_call_34 : decode cX7_call 34 = .ok (.invokevirtual 137, 3) := by decide +kernel
theorem dX7_call_37 : decode cX7_call 37 = .ok (.istore_n 3, 1) := by decide +kernel
theorem dX7_call_38 : decode cX7_call 38 = .ok (.iload_n 2, 1) := by decide +kernel
theorem dX7_call_39 : decode cX7_call 39 = .ok (.iconst 2, 1) := by decide +kernel
theorem dX7_call_40 : decode cX7_call 40 = .ok (.if_icmp .ne 7, 3) := by decide +kernel
theorem dX7_call_43 : decode cX7_call 43 = .ok (.iload_n 3, 1) := by decide +kernel
theorem dX7_call_44 : decode cX7_call 44 = .ok (.goto 15, 3) := by decide +kernel
theorem dX7_call_47 : decode cX7_call 47 = .ok (.aload_n 0, 1) := by decide +kernel
theorem dX7_call_48 : decode cX7_call 48 = .ok (.getfield 10, 3) := by decide +kernel
theorem dX7_call_51 : decode cX7_call 51 = .ok (.getfield 105, 3) := by decide +kernel
theorem dX7_call_54 : decode cX7_call 54 = .ok (.iload_n 3, 1) := by decide +kernel
theorem dX7_call_55 : decode cX7_call 55 = .ok (.iload_n 2, 1) := by decide +kernel
theorem dX7_call_56 : decode cX7_call 56 = .ok (.invokevirtual 127, 3) := by decide +kernel
theorem dX7_call_59 : decode cX7_call 59 = .ok (.ireturn, 1) := by decide +kernel
set_option maxRecDepth 20000 in
theorem ggX7_whose_X6_ownerOf : GoodIn wsX7_whose wsX6_ownerOf := goodIn_r _ [6, 7, 8, 9, 10, 5, 11, 12, 13, 14, 15, 16, 17, 18, 19, 31, 32, 33, 34, 35, 36, 37, 38, 39] rfl rfl
set_option maxRecDepth 20000 in
theorem gX7_whose_X6_ownerOf : GoodIn wsX7_whose (wsV RX7 140 RX6 yX6_ownerOf wsX6_ownerOf) := goodIn_app (goodIn_of _ (by decide +kernel)) ggX7_whose_X6_ownerOf
theorem dX7_whose_0 : decode cX7_whose 0 = .ok (.aload_n 0, 1) := by decide +kernel
theorem dX7_whose_1 : decode cX7_whose 1 = .ok (.getfield 10, 3) := by decide +kernel
theorem dX7_whose_4 : decode cX7_whose 4 = .ok (.iload_n 1, 1) := by decide +kernel
theorem dX7_whose_5 : decode cX7_whose 5 = .ok (.invokevirtual 140, 3) := by decide +kernel
theorem dX7_whose_8 : decode cX7_whose 8 = .ok (.ireturn, 1) := by decide +kernel
set_option maxRecDepth 20000 in
theorem ggX7_row_X6_ownerOf : GoodIn wsX7_row wsX6_ownerOf := goodIn_r _ [7, 8, 9, 10, 11, 6, 12, 13, 14, 15, 16, 17, 18, 19, 20, 83, 84, 85, 86, 87, 88, 89, 90, 91] rfl rfl
set_option maxRecDepth 20000 in
theorem gX7_row_X6_ownerOf : GoodIn wsX7_row (wsV RX7 140 RX6 yX6_ownerOf wsX6_ownerOf) := goodIn_app (goodIn_of _ (by decide +kernel)) ggX7_row_X6_ownerOf
set_option maxRecDepth 20000 in
theorem ggX7_row_X1_goTo : GoodIn wsX7_row wsX1_goTo := goodIn_r _ [25, 26, 27, 28, 29, 24, 30, 31, 32, 33, 34, 35, 36, 37, 38, 39, 40, 41, 42, 43, 14, 15, 16, 17, 18, 19, 20, 44, 45, 46, 47, 48, 49, 50, 51, 52, 53, 54, 55, 56, 57, 58, 59, 60, 80, 81, 82, 83, 84, 85, 86, 87, 88, 89, 90, 91] rfl rfl
set_option maxRecDepth 20000 in
theorem gX7_row_X1_goTo : GoodIn wsX7_row (wsV RX7 144 RX1 yX1_goTo wsX1_goTo) := goodIn_app (goodIn_of _ (by decide +kernel)) ggX7_row_X1_goTo
set_option maxRecDepth 20000 in
theorem ggX7_row_X1_base : GoodIn wsX7_row wsX1_base := goodIn_r _ [64, 31, 80, 81, 82] rfl rfl
set_option maxRecDepth 20000 in
theorem gX7_row_X1_base : GoodIn wsX7_row (wsV RX7 148 RX1 yX1_base wsX1_base) := goodIn_app (goodIn_of _ (by decide +kernel)) ggX7_row_X1_base
set_option maxRecDepth 20000 in
theorem ggX7_row_X1_off : GoodIn wsX7_row wsX1_off := goodIn_r _ [68, 31, 80, 81, 82] rfl rfl
set_option maxRecDepth 20000 in
theorem gX7_row_X1_off : GoodIn wsX7_row (wsV RX7 151 RX1 yX1_off wsX1_off) := goodIn_app (goodIn_of _ (by decide +kernel)) ggX7_row_X1_off
theorem dX7_row_0 : decode cX7_row 0 = .ok (.iload_n 2, 1) := by decide +kernel
theorem dX7_row_1 : decode cX7_row 1 = .ok (.ifCond .lt 8, 3) := by decide +kernel
theorem dX7_row_4 : decode cX7_row 4 = .ok (.iload_n 2, 1) := by decide +kernel
theorem dX7_row_5 : decode cX7_row 5 = .ok (.iconst 2, 1) := by decide +kernel
theorem dX7_row_6 : decode cX7_row 6 = .ok (.if_icmp .le 5, 3) := by decide +kernel
theorem dX7_row_9 : decode cX7_row 9 = .ok (.iconst (-1), 1) := by decide +kernel
theorem dX7_row_10 : decode cX7_row 10 = .ok (.ireturn, 1) := by decide +kernel
theorem dX7_row_11 : decode cX7_row 11 = .ok (.aload_n 0, 1) := by decide +kernel
theorem dX7_row_12 : decode cX7_row 12 = .ok (.getfield 10, 3) := by decide +kernel
theorem dX7_row_15 : decode cX7_row 15 = .ok (.iload_n 1, 1) := by decide +kernel
theorem dX7_row_16 : decode cX7_row 16 = .ok (.invokevirtual 140, 3) := by decide +kernel
theorem dX7_row_19 : decode cX7_row 19 = .ok (.istore_n 3, 1) := by decide +kernel
theorem dX7_row_20 : decode cX7_row 20 = .ok (.iload_n 3, 1) := by decide +kernel
theorem dX7_row_21 : decode cX7_row 21 = .ok (.bipush (-4), 2) := by decide +kernel
theorem dX7_row_23 : decode cX7_row 23 = .ok (.if_icmp .ne 6, 3) := by decide +kernel
theorem dX7_row_26 : decode cX7_row 26 = .ok (.bipush (-4), 2) := by decide +kernel
theorem dX7_row_28 : decode cX7_row 28 = .ok (.ireturn, 1) := by decide +kernel
theorem dX7_row_29 : decode cX7_row 29 = .ok (.aload_n 0, 1) := by decide +kernel
theorem dX7_row_30 : decode cX7_row 30 = .ok (.getfield 37, 3) := by decide +kernel
theorem dX7_row_33 : decode cX7_row 33 = .ok (.aload_n 0, 1) := by decide +kernel
theorem dX7_row_34 : decode cX7_row 34 = .ok (.getfield 10, 3) := by decide +kernel
theorem dX7_row_37 : decode cX7_row 37 = .ok (.iload_n 3, 1) := by decide +kernel
theorem dX7_row_38 : decode cX7_row 38 = .ok (.iload_n 1, 1) := by decide +kernel
theorem dX7_row_39 : decode cX7_row 39 = .ok (.invokevirtual 144, 3) := by decide +kernel
theorem dX7_row_42 : decode cX7_row 42 = .ok (.iload_n 2, 1) := by decide +kernel
theorem dX7_row_43 : decode cX7_row 43 = .ok (.ifCond .ne 11, 3) := by decide +kernel
theorem dX7_row_46 : decode cX7_row 46 = .ok (.aload_n 0, 1) := by decide +kernel
theorem dX7_row_47 : decode cX7_row 47 = .ok (.getfield 37, 3) := by decide +kernel
theorem dX7_row_50 : decode cX7_row 50 = .ok (.invokevirtual 148, 3) := by decide +kernel
theorem dX7_row_53 : decode cX7_row 53 = .ok (.ireturn, 1) := by decide +kernel
theorem dX7_row_54 : decode cX7_row 54 = .ok (.iload_n 2, 1) := by decide +kernel
theorem dX7_row_55 : decode cX7_row 55 = .ok (.iconst 1, 1) := by decide +kernel
theorem dX7_row_56 : decode cX7_row 56 = .ok (.if_icmp .ne 13, 3) := by decide +kernel
theorem dX7_row_59 : decode cX7_row 59 = .ok (.aload_n 0, 1) := by decide +kernel
theorem dX7_row_60 : decode cX7_row 60 = .ok (.getfield 37, 3) := by decide +kernel
theorem dX7_row_63 : decode cX7_row 63 = .ok (.invokevirtual 151, 3) := by decide +kernel
theorem dX7_row_66 : decode cX7_row 66 = .ok (.goto 10, 3) := by decide +kernel
theorem dX7_row_69 : decode cX7_row 69 = .ok (.aload_n 0, 1) := by decide +kernel
theorem dX7_row_70 : decode cX7_row 70 = .ok (.getfield 37, 3) := by decide +kernel
theorem dX7_row_73 : decode cX7_row 73 = .ok (.getfield 154, 3) := by decide +kernel
theorem dX7_row_76 : decode cX7_row 76 = .ok (.ireturn, 1) := by decide +kernel
set_option maxRecDepth 20000 in
theorem ggX7_ruleOf_X7_isRegister : GoodIn wsX7_ruleOf wsX7_isRegister := goodIn_r _ [6] rfl rfl
set_option maxRecDepth 20000 in
theorem gX7_ruleOf_X7_isRegister : GoodIn wsX7_ruleOf (va_wsS RX7 157 yX7_isRegister wsX7_isRegister) := goodIn_app (goodIn_of _ (by decide +kernel)) ggX7_ruleOf_X7_isRegister
set_option maxRecDepth 20000 in
theorem ggX7_ruleOf_X6_ownerOf : GoodIn wsX7_ruleOf wsX6_ownerOf := goodIn_r _ [11, 12, 13, 14, 15, 10, 16, 17, 18, 19, 20, 21, 22, 23, 24, 81, 82, 83, 84, 85, 86, 87, 88, 89] rfl rfl
set_option maxRecDepth 20000 in
theorem gX7_ruleOf_X6_ownerOf : GoodIn wsX7_ruleOf (wsV RX7 140 RX6 yX6_ownerOf wsX6_ownerOf) := goodIn_app (goodIn_of _ (by decide +kernel)) ggX7_ruleOf_X6_ownerOf
set_option maxRecDepth 20000 in
theorem ggX7_ruleOf_X1_goTo : GoodIn wsX7_ruleOf wsX1_goTo := goodIn_r _ [29, 30, 31, 32, 33, 28, 34, 35, 36, 37, 38, 39, 40, 41, 42, 43, 4, 5, 6, 44, 18, 19, 20, 21, 22, 23, 24, 45, 46, 47, 48, 49, 50, 51, 52, 53, 54, 55, 56, 57, 58, 59, 60, 61, 90, 91, 92, 81, 82, 83, 84, 85, 86, 87, 88, 89] rfl rfl
set_option maxRecDepth 20000 in
theorem gX7_ruleOf_X1_goTo : GoodIn wsX7_ruleOf (wsV RX7 144 RX1 yX1_goTo wsX1_goTo) := goodIn_app (goodIn_of _ (by decide +kernel)) ggX7_ruleOf_X1_goTo
set_option maxRecDepth 20000 in
theorem ggX7_ruleOf_X1_which : GoodIn wsX7_ruleOf wsX1_which := goodIn_r _ [65, 35, 4, 5, 6, 90, 91, 92] rfl rfl
set_option maxRecDepth 20000 in
theorem gX7_ruleOf_X1_which : GoodIn wsX7_ruleOf (wsV RX7 160 RX1 yX1_which wsX1_which) := goodIn_app (goodIn_of _ (by decide +kernel)) ggX7_ruleOf_X1_which
set_option maxRecDepth 20000 in
theorem ggX7_ruleOf_X1_number : GoodIn wsX7_ruleOf wsX1_number := goodIn_r _ [69, 35, 4, 5, 6, 90, 91, 92] rfl rfl
set_option maxRecDepth 20000 in
theorem gX7_ruleOf_X1_number : GoodIn wsX7_ruleOf (wsV RX7 163 RX1 yX1_number wsX1_number) := goodIn_app (goodIn_of _ (by decide +kernel)) ggX7_ruleOf_X1_number
theorem dX7_ruleOf_0 : decode cX7_ruleOf 0 = .ok (.iload_n 2, 1) := by decide +kernel
theorem dX7_ruleOf_1 : decode cX7_ruleOf 1 = .ok (.invokestatic 157, 3) := by decide +kernel
theorem dX7_ruleOf_4 : decode cX7_ruleOf 4 = .ok (.ifCond .eq 17, 3) := by decide +kernel
theorem dX7_ruleOf_7 : decode cX7_ruleOf 7 = .ok (.iload_n 2, 1) := by decide +kernel
theorem dX7_ruleOf_8 : decode cX7_ruleOf 8 = .ok (.iconst 4, 1) := by decide +kernel
theorem dX7_ruleOf_9 : decode cX7_ruleOf 9 = .ok (.if_icmp .eq 12, 3) := by decide +kernel
theorem dX7_ruleOf_12 : decode cX7_ruleOf 12 = .ok (.iload_n 3, 1) := by decide +kernel
theorem dX7_ruleOf_13 : decode cX7_ruleOf 13 = .ok (.ifCond .lt 8, 3) := by decide +kernel
theorem dX7_ruleOf_16 : decode cX7_ruleOf 16 = .ok (.iload_n 3, 1) := by decide +kernel
theorem dX7_ruleOf_17 : decode cX7_ruleOf 17 = .ok (.iconst 1, 1) := by decide +kernel
theorem dX7_ruleOf_18 : decode cX7_ruleOf 18 = .ok (.if_icmp .le 5, 3) := by decide +kernel
theorem dX7_ruleOf_21 : decode cX7_ruleOf 21 = .ok (.iconst (-1), 1) := by decide +kernel
theorem dX7_ruleOf_22 : decode cX7_ruleOf 22 = .ok (.ireturn, 1) := by decide +kernel
theorem dX7_ruleOf_23 : decode cX7_ruleOf 23 = .ok (.aload_n 0, 1) := by decide +kernel
theorem dX7_ruleOf_24 : decode cX7_ruleOf 24 = .ok (.getfield 10, 3) := by decide +kernel
theorem dX7_ruleOf_27 : decode cX7_ruleOf 27 = .ok (.iload_n 1, 1) := by decide +kernel
theorem dX7_ruleOf_28 : decode cX7_ruleOf 28 = .ok (.invokevirtual 140, 3) := by decide +kernel
theorem dX7_ruleOf_31 : decode cX7_ruleOf 31 = .ok (.istore 4, 2) := by decide +kernel
theorem dX7_ruleOf_33 : decode cX7_ruleOf 33 = .ok (.iload 4, 2) := by decide +kernel
theorem dX7_ruleOf_35 : decode cX7_ruleOf 35 = .ok (.bipush (-4), 2) := by decide +kernel
theorem dX7_ruleOf_37 : decode cX7_ruleOf 37 = .ok (.if_icmp .ne 6, 3) := by decide +kernel
theorem dX7_ruleOf_40 : decode cX7_ruleOf 40 = .ok (.bipush (-4), 2) := by decide +kernel
theorem dX7_ruleOf_42 : decode cX7_ruleOf 42 = .ok (.ireturn, 1) := by decide +kernel
theorem dX7_ruleOf_43 : decode cX7_ruleOf 43 = .ok (.aload_n 0, 1) := by decide +kernel
theorem dX7_ruleOf_44 : decode cX7_ruleOf 44 = .ok (.getfield 37, 3) := by decide +kernel
theorem dX7_ruleOf_47 : decode cX7_ruleOf 47 = .ok (.aload_n 0, 1) := by decide +kernel
theorem dX7_ruleOf_48 : decode cX7_ruleOf 48 = .ok (.getfield 10, 3) := by decide +kernel
theorem dX7_ruleOf_51 : decode cX7_ruleOf 51 = .ok (.iload 4, 2) := by decide +kernel
theorem dX7_ruleOf_53 : decode cX7_ruleOf 53 = .ok (.iload_n 1, 1) := by decide +kernel
theorem dX7_ruleOf_54 : decode cX7_ruleOf 54 = .ok (.invokevirtual 144, 3) := by decide +kernel
theorem dX7_ruleOf_57 : decode cX7_ruleOf 57 = .ok (.aload_n 0, 1) := by decide +kernel
theorem dX7_ruleOf_58 : decode cX7_ruleOf 58 = .ok (.getfield 37, 3) := by decide +kernel
theorem dX7_ruleOf_61 : decode cX7_ruleOf 61 = .ok (.iload_n 2, 1) := by decide +kernel
theorem dX7_ruleOf_62 : decode cX7_ruleOf 62 = .ok (.invokevirtual 160, 3) := by decide +kernel
theorem dX7_ruleOf_65 : decode cX7_ruleOf 65 = .ok (.istore 5, 2) := by decide +kernel
theorem dX7_ruleOf_67 : decode cX7_ruleOf 67 = .ok (.iload_n 3, 1) := by decide +kernel
theorem dX7_ruleOf_68 : decode cX7_ruleOf 68 = .ok (.ifCond .ne 6, 3) := by decide +kernel
theorem dX7_ruleOf_71 : decode cX7_ruleOf 71 = .ok (.iload 5, 2) := by decide +kernel
theorem dX7_ruleOf_73 : decode cX7_ruleOf 73 = .ok (.ireturn, 1) := by decide +kernel
theorem dX7_ruleOf_74 : decode cX7_ruleOf 74 = .ok (.iload 5, 2) := by decide +kernel
theorem dX7_ruleOf_76 : decode cX7_ruleOf 76 = .ok (.ifCond .ne 8, 3) := by decide +kernel
theorem dX7_ruleOf_79 : decode cX7_ruleOf 79 = .ok (.bipush (-4), 2) := by decide +kernel
theorem dX7_ruleOf_81 : decode cX7_ruleOf 81 = .ok (.goto 11, 3) := by decide +kernel
theorem dX7_ruleOf_84 : decode cX7_ruleOf 84 = .ok (.aload_n 0, 1) := by decide +kernel
theorem dX7_ruleOf_85 : decode cX7_ruleOf 85 = .ok (.getfield 37, 3) := by decide +kernel
theorem dX7_ruleOf_88 : decode cX7_ruleOf 88 = .ok (.iload_n 2, 1) := by decide +kernel
theorem dX7_ruleOf_89 : decode cX7_ruleOf 89 = .ok (.invokevirtual 163, 3) := by decide +kernel
theorem dX7_ruleOf_92 : decode cX7_ruleOf 92 = .ok (.ireturn, 1) := by decide +kernel
set_option maxRecDepth 20000 in
theorem ggX7_put_X7_isRegister : GoodIn wsX7_put wsX7_isRegister := goodIn_r _ [5] rfl rfl
set_option maxRecDepth 20000 in
theorem gX7_put_X7_isRegister : GoodIn wsX7_put (va_wsS RX7 157 yX7_isRegister wsX7_isRegister) := goodIn_app (goodIn_of _ (by decide +kernel)) ggX7_put_X7_isRegister
set_option maxRecDepth 20000 in
theorem ggX7_put_X7_isNumber : GoodIn wsX7_put wsX7_isNumber := goodIn_r _ [8] rfl rfl
set_option maxRecDepth 20000 in
theorem gX7_put_X7_isNumber : GoodIn wsX7_put (va_wsS RX7 166 yX7_isNumber wsX7_isNumber) := goodIn_app (goodIn_of _ (by decide +kernel)) ggX7_put_X7_isNumber
theorem dX7_put_0 : decode cX7_put 0 = .ok (.iload_n 1, 1) := by decide +kernel
theorem dX7_put_1 : decode cX7_put 1 = .ok (.invokestatic 157, 3) := by decide +kernel
theorem dX7_put_4 : decode cX7_put 4 = .ok (.ifCond .eq 10, 3) := by decide +kernel
theorem dX7_put_7 : decode cX7_put 7 = .ok (.iload_n 2, 1) := by decide +kernel
theorem dX7_put_8 : decode cX7_put 8 = .ok (.invokestatic 166, 3) := by decide +kernel
theorem dX7_put_11 : decode cX7_put 11 = .ok (.ifCond .ne 5, 3) := by decide +kernel
theorem dX7_put_14 : decode cX7_put 14 = .ok (.iconst (-1), 1) := by decide +kernel
theorem dX7_put_15 : decode cX7_put 15 = .ok (.ireturn, 1) := by decide +kernel
theorem dX7_put_16 : decode cX7_put 16 = .ok (.aload_n 0, 1) := by decide +kernel
theorem dX7_put_17 : decode cX7_put 17 = .ok (.getfield 10, 3) := by decide +kernel
theorem dX7_put_20 : decode cX7_put 20 = .ok (.getfield 169, 3) := by decide +kernel
theorem dX7_put_23 : decode cX7_put 23 = .ok (.iload_n 1, 1) := by decide +kernel
theorem dX7_put_24 : decode cX7_put 24 = .ok (.iaload, 1) := by decide +kernel
theorem dX7_put_25 : decode cX7_put 25 = .ok (.istore_n 3, 1) := by decide +kernel
theorem dX7_put_26 : decode cX7_put 26 = .ok (.aload_n 0, 1) := by decide +kernel
theorem dX7_put_27 : decode cX7_put 27 = .ok (.getfield 10, 3) := by decide +kernel
theorem dX7_put_30 : decode cX7_put 30 = .ok (.getfield 169, 3) := by decide +kernel
theorem dX7_put_33 : decode cX7_put 33 = .ok (.iload_n 1, 1) := by decide +kernel
theorem dX7_put_34 : decode cX7_put 34 = .ok (.iload_n 2, 1) := by decide +kernel
theorem dX7_put_35 : decode cX7_put 35 = .ok (.iastore, 1) := by decide +kernel
theorem dX7_put_36 : decode cX7_put 36 = .ok (.iload_n 3, 1) := by decide +kernel
theorem dX7_put_37 : decode cX7_put 37 = .ok (.ireturn, 1) := by decide +kernel
set_option maxRecDepth 20000 in
theorem ggX7_poke_X7_isWord : GoodIn wsX7_poke wsX7_isWord := goodIn_r _ [5] rfl rfl
set_option maxRecDepth 20000 in
theorem gX7_poke_X7_isWord : GoodIn wsX7_poke (va_wsS RX7 172 yX7_isWord wsX7_isWord) := goodIn_app (goodIn_of _ (by decide +kernel)) ggX7_poke_X7_isWord
set_option maxRecDepth 20000 in
theorem ggX7_poke_X7_isNumber : GoodIn wsX7_poke wsX7_isNumber := goodIn_r _ [8] rfl rfl
set_option maxRecDepth 20000 in
theorem gX7_poke_X7_isNumber : GoodIn wsX7_poke (va_wsS RX7 166 yX7_isNumber wsX7_isNumber) := goodIn_app (goodIn_of _ (by decide +kernel)) ggX7_poke_X7_isNumber
theorem dX7_poke_0 : decode cX7_poke 0 = .ok (.iload_n 1, 1) := by decide +kernel
theorem dX7_poke_1 : decode cX7_poke 1 = .ok (.invokestatic 172, 3) := by decide +kernel
theorem dX7_poke_4 : decode cX7_poke 4 = .ok (.ifCond .eq 10, 3) := by decide +kernel
theorem dX7_poke_7 : decode cX7_poke 7 = .ok (.iload_n 2, 1) := by decide +kernel
theorem dX7_poke_8 : decode cX7_poke 8 = .ok (.invokestatic 166, 3) := by decide +kernel
theorem dX7_poke_11 : decode cX7_poke 11 = .ok (.ifCond .ne 5, 3) := by decide +kernel
theorem dX7_poke_14 : decode cX7_poke 14 = .ok (.iconst (-1), 1) := by decide +kernel
theorem dX7_poke_15 : decode cX7_poke 15 = .ok (.ireturn, 1) := by decide +kernel
theorem dX7_poke_16 : decode cX7_poke 16 = .ok (.aload_n 0, 1) := by decide +kernel
theorem dX7_poke_17 : decode cX7_poke 17 = .ok (.getfield 10, 3) := by decide +kernel
theorem dX7_poke_20 : decode cX7_poke 20 = .ok (.getfield 175, 3) := by decide +kernel
theorem dX7_poke_23 : decode cX7_poke 23 = .ok (.iload_n 1, 1) := by decide +kernel
theorem dX7_poke_24 : decode cX7_poke 24 = .ok (.iaload, 1) := by decide +kernel
theorem dX7_poke_25 : decode cX7_poke 25 = .ok (.istore_n 3, 1) := by decide +kernel
theorem dX7_poke_26 : decode cX7_poke 26 = .ok (.aload_n 0, 1) := by decide +kernel
theorem dX7_poke_27 : decode cX7_poke 27 = .ok (.getfield 10, 3) := by decide +kernel
theorem dX7_poke_30 : decode cX7_poke 30 = .ok (.getfield 175, 3) := by decide +kernel
theorem dX7_poke_33 : decode cX7_poke 33 = .ok (.iload_n 1, 1) := by decide +kernel
theorem dX7_poke_34 : decode cX7_poke 34 = .ok (.iload_n 2, 1) := by decide +kernel
theorem dX7_poke_35 : decode cX7_poke 35 = .ok (.iastore, 1) := by decide +kernel
theorem dX7_poke_36 : decode cX7_poke 36 = .ok (.iload_n 3, 1) := by decide +kernel
theorem dX7_poke_37 : decode cX7_poke 37 = .ok (.ireturn, 1) := by decide +kernel
set_option maxRecDepth 20000 in
theorem ggX7_get_X7_isRegister : GoodIn wsX7_get wsX7_isRegister := goodIn_r _ [5] rfl rfl
set_option maxRecDepth 20000 in
theorem gX7_get_X7_isRegister : GoodIn wsX7_get (va_wsS RX7 157 yX7_isRegister wsX7_isRegister) := goodIn_app (goodIn_of _ (by decide +kernel)) ggX7_get_X7_isRegister
theorem dX7_get_0 : decode cX7_get 0 = .ok (.iload_n 1, 1) := by decide +kernel
theorem dX7_get_1 : decode cX7_get 1 = .ok (.invokestatic 157, 3) := by decide +kernel
theorem dX7_get_4 : decode cX7_get 4 = .ok (.ifCond .eq 15, 3) := by decide +kernel
theorem dX7_get_7 : decode cX7_get 7 = .ok (.aload_n 0, 1) := by decide +kernel
theorem dX7_get_8 : decode cX7_get 8 = .ok (.getfield 10, 3) := by decide +kernel
theorem dX7_get_11 : decode cX7_get 11 = .ok (.getfield 169, 3) := by decide +kernel
theorem dX7_get_14 : decode cX7_get 14 = .ok (.iload_n 1, 1) := by decide +kernel
theorem dX7_get_15 : decode cX7_get 15 = .ok (.iaload, 1) := by decide +kernel
theorem dX7_get_16 : decode cX7_get 16 = .ok (.goto 4, 3) := by decide +kernel
theorem dX7_get_19 : decode cX7_get 19 = .ok (.iconst (-1), 1) := by decide +kernel
theorem dX7_get_20 : decode cX7_get 20 = .ok (.ireturn, 1) := by decide +kernel
set_option maxRecDepth 20000 in
theorem ggX7_peek_X7_isWord : GoodIn wsX7_peek wsX7_isWord := goodIn_r _ [5] rfl rfl
set_option maxRecDepth 20000 in
theorem gX7_peek_X7_isWord : GoodIn wsX7_peek (va_wsS RX7 172 yX7_isWord wsX7_isWord) := goodIn_app (goodIn_of _ (by decide +kernel)) ggX7_peek_X7_isWord
theorem dX7_peek_0 : decode cX7_peek 0 = .ok (.iload_n 1, 1) := by decide +kernel
theorem dX7_peek_1 : decode cX7_peek 1 = .ok (.invokestatic 172, 3) := by decide +kernel
theorem dX7_peek_4 : decode cX7_peek 4 = .ok (.ifCond .eq 15, 3) := by decide +kernel
theorem dX7_peek_7 : decode cX7_peek 7 = .ok (.aload_n 0, 1) := by decide +kernel
theorem dX7_peek_8 : decode cX7_peek 8 = .ok (.getfield 10, 3) := by decide +kernel
theorem dX7_peek_11 : decode cX7_peek 11 = .ok (.getfield 175, 3) := by decide +kernel
theorem dX7_peek_14 : decode cX7_peek 14 = .ok (.iload_n 1, 1) := by decide +kernel
theorem dX7_peek_15 : decode cX7_peek 15 = .ok (.iaload, 1) := by decide +kernel
theorem dX7_peek_16 : decode cX7_peek 16 = .ok (.goto 4, 3) := by decide +kernel
theorem dX7_peek_19 : decode cX7_peek 19 = .ok (.iconst (-1), 1) := by decide +kernel
theorem dX7_peek_20 : decode cX7_peek 20 = .ok (.ireturn, 1) := by decide +kernel
set_option maxRecDepth 20000 in
theorem ggX7_walk_X5_begin : GoodIn wsX7_walk wsX5_begin := goodIn_r _ [9, 10, 11, 12, 13, 14, 15, 16, 17, 18, 8, 19, 20, 199, 200, 201, 202, 203, 204, 205, 206, 207] rfl rfl
set_option maxRecDepth 20000 in
theorem gX7_walk_X5_begin : GoodIn wsX7_walk (wsV RX7 178 RX5 yX5_begin wsX5_begin) := goodIn_app (goodIn_of _ (by decide +kernel)) ggX7_walk_X5_begin
set_option maxRecDepth 20000 in
theorem ggX7_walk_X5_lookUp : GoodIn wsX7_walk wsX5_lookUp := goodIn_r _ [24, 20, 11, 25, 26, 27, 28, 29, 8, 30, 12, 31, 32, 33, 34, 15, 35, 36, 37, 38, 39, 40, 41, 42, 43, 44, 45, 46, 47, 48, 49, 50, 51, 52, 53, 54, 55, 56, 199, 200, 201, 202, 203, 204, 205, 206, 207, 193, 194, 195, 196, 197, 198, 208, 209, 210] rfl rfl
set_option maxRecDepth 20000 in
theorem gX7_walk_X5_lookUp : GoodIn wsX7_walk (wsV RX7 182 RX5 yX5_lookUp wsX5_lookUp) := goodIn_app (goodIn_of _ (by decide +kernel)) ggX7_walk_X5_lookUp
set_option maxRecDepth 20000 in
theorem ggX7_walk_X7_endAt : GoodIn wsX7_walk wsX7_endAt := goodIn_r _ [60, 1, 4, 2, 61, 32, 33, 8, 34, 15, 27, 28, 29, 30, 12, 35, 36, 37, 62, 63, 64, 65, 66, 67, 68, 69, 70, 71, 72, 73, 74, 75, 76, 77, 78, 79, 80, 81, 49, 50, 51, 52, 53, 54, 55, 82, 83, 84, 85, 86, 87, 88, 89, 90, 91, 92, 93, 94, 95, 96, 97, 98, 99, 100, 101, 102, 103, 104, 105, 106, 31, 107, 108, 109, 110, 111, 112, 113, 114, 115, 116, 117, 118, 119, 120, 121, 182, 183, 184, 185, 186, 187, 188, 189, 190, 191, 192, 199, 200, 201, 202, 203, 204, 205, 206, 207, 211, 212, 213, 193, 194, 195, 196, 197, 198, 208, 209, 210] rfl rfl
set_option maxRecDepth 20000 in
theorem gX7_walk_X7_endAt : GoodIn wsX7_walk (wsV RX7 186 RX7 yX7_endAt wsX7_endAt) := goodIn_app (goodIn_of _ (by decide +kernel)) ggX7_walk_X7_endAt
set_option maxRecDepth 20000 in
theorem ggX7_walk_X7_isGuessable : GoodIn wsX7_walk wsX7_isGuessable := goodIn_r _ [124] rfl rfl
set_option maxRecDepth 20000 in
theorem gX7_walk_X7_isGuessable : GoodIn wsX7_walk (va_wsS RX7 189 yX7_isGuessable wsX7_isGuessable) := goodIn_app (goodIn_of _ (by decide +kernel)) ggX7_walk_X7_isGuessable
set_option maxRecDepth 20000 in
theorem ggX7_walk_X7_findGuesses : GoodIn wsX7_walk wsX7_findGuesses := goodIn_r _ [128, 3, 2, 1, 61, 32, 33, 8, 34, 15, 27, 28, 29, 30, 12, 35, 36, 37, 129, 130, 131, 132, 133, 134, 120, 121, 135, 136, 137, 138, 39, 40, 41, 42, 43, 44, 45, 46, 47, 48, 49, 50, 51, 52, 53, 54, 55, 139, 140, 141, 142, 143, 144, 145, 146, 147, 148, 149, 150, 151, 152, 153, 154, 155, 156, 157, 158, 159, 160, 161, 162, 182, 183, 184, 185, 186, 187, 188, 189, 190, 191, 192, 199, 200, 201, 202, 203, 204, 205, 206, 207, 214, 215, 216, 193, 194, 195, 196, 197, 198, 208, 209, 210] rfl rfl
set_option maxRecDepth 20000 in
theorem gX7_walk_X7_findGuesses : GoodIn wsX7_walk (wsV RX7 192 RX7 yX7_findGuesses wsX7_findGuesses) := goodIn_app (goodIn_of _ (by decide +kernel)) ggX7_walk_X7_findGuesses
set_option maxRecDepth 20000 in
theorem ggX7_walk_X0_bestWord : GoodIn wsX7_walk wsX0_bestWord := goodIn_r _ [166, 134, 162, 214, 215, 216] rfl rfl
set_option maxRecDepth 20000 in
theorem gX7_walk_X0_bestWord : GoodIn wsX7_walk (wsV RX7 195 RX0 yX0_bestWord wsX0_bestWord) := goodIn_app (goodIn_of _ (by decide +kernel)) ggX7_walk_X0_bestWord
set_option maxRecDepth 20000 in
theorem ggX7_walk_X5_addGuessed : GoodIn wsX7_walk wsX5_addGuessed := goodIn_r _ [170, 12, 15, 14, 31, 32, 33, 8, 34, 27, 28, 29, 30, 35, 36, 37, 16, 17, 18, 19, 20, 199, 200, 201, 202, 203, 204, 205, 206, 207] rfl rfl
set_option maxRecDepth 20000 in
theorem gX7_walk_X5_addGuessed : GoodIn wsX7_walk (wsV RX7 198 RX5 yX5_addGuessed wsX5_addGuessed) := goodIn_app (goodIn_of _ (by decide +kernel)) ggX7_walk_X5_addGuessed
set_option maxRecDepth 20000 in
theorem ggX7_walk_X5_addByRow : GoodIn wsX7_walk wsX5_addByRow := goodIn_r _ [174, 12, 15, 175, 100, 101, 8, 102, 103, 104, 105, 65, 106, 72, 31, 32, 33, 34, 27, 28, 29, 30, 35, 36, 37, 107, 108, 109, 110, 176, 177, 178, 179, 180, 112, 113, 114, 181, 116, 117, 118, 16, 17, 18, 19, 20, 199, 200, 201, 202, 203, 204, 205, 206, 207, 211, 212, 213] rfl rfl
set_option maxRecDepth 20000 in
theorem gX7_walk_X5_addByRow : GoodIn wsX7_walk (wsV RX7 202 RX5 yX5_addByRow wsX5_addByRow) := goodIn_app (goodIn_of _ (by decide +kernel)) ggX7_walk_X5_addByRow
theorem dX7_walk_0 : decode cX7_walk 0 = .ok (.iload_n 1, 1) := by decide +kernel
theorem dX7_walk_1 : decode cX7_walk 1 = .ok (.ifCond .eq 10, 3) := by decide +kernel
theorem dX7_walk_4 : decode cX7_walk 4 = .ok (.iload_n 1, 1) := by decide +kernel
theorem dX7_walk_5 : decode cX7_walk 5 = .ok (.iconst 1, 1) := by decide +kernel
theorem dX7_walk_6 : decode cX7_walk 6 = .ok (.if_icmp .eq 5, 3) := by decide +kernel
theorem dX7_walk_9 : decode cX7_walk 9 = .ok (.iconst (-1), 1) := by decide +kernel
theorem dX7_walk_10 : decode cX7_walk 10 = .ok (.ireturn, 1) := by decide +kernel
theorem dX7_walk_11 : decode cX7_walk 11 = .ok (.aload_n 0, 1) := by decide +kernel
theorem dX7_walk_12 : decode cX7_walk 12 = .ok (.getfield 44, 3) := by decide +kernel
theorem dX7_walk_15 : decode cX7_walk 15 = .ok (.aload_n 0, 1) := by decide +kernel
theorem dX7_walk_16 : decode cX7_walk 16 = .ok (.getfield 10, 3) := by decide +kernel
theorem dX7_walk_19 : decode cX7_walk 19 = .ok (.getfield 169, 3) := by decide +kernel
theorem dX7_walk_22 : decode cX7_walk 22 = .ok (.invokevirtual 178, 3) := by decide +kernel
theorem dX7_walk_25 : decode cX7_walk 25 = .ok (.iload_n 1, 1) := by decide +kernel
theorem dX7_walk_26 : decode cX7_walk 26 = .ok (.iconst 1, 1) := by decide +kernel
theorem dX7_walk_27 : decode cX7_walk 27 = .ok (.if_icmp .ne 7, 3) := by decide +kernel
theorem dX7_walk_30 : decode cX7_walk 30 = .ok (.iconst 1, 1) := by decide +kernel
theorem dX7_walk_31 : decode cX7_walk 31 = .ok (.goto 4, 3) := by decide +kernel
theorem dX7_walk_34 : decode cX7_walk 34 = .ok (.iconst 0, 1) := by decide +kernel
theorem dX7_walk_35 : decode cX7_walk 35 = .ok (.istore_n 2, 1) := by decide +kernel
theorem dX7_walk_36 : decode cX7_walk 36 = .ok (.iconst 0, 1) := by decide +kernel
theorem dX7_walk_37 : decode cX7_walk 37 = .ok (.istore_n 3, 1) := by decide +kernel
theorem dX7_walk_38 : decode cX7_walk 38 = .ok (.iload_n 3, 1) := by decide +kernel
theorem dX7_walk_39 : decode cX7_walk 39 = .ok (.bipush 20, 2) := by decide +kernel
theorem dX7_walk_41 : decode cX7_walk 41 = .ok (.if_icmp .ge 154, 3) := by decide +kernel
theorem dX7_walk_44 : decode cX7_walk 44 = .ok (.aload_n 0, 1) := by decide +kernel
theorem dX7_walk_45 : decode cX7_walk 45 = .ok (.getfield 44, 3) := by decide +kernel
theorem dX7_walk_48 : decode cX7_walk 48 = .ok (.iload_n 3, 1) := by decide +kernel
theorem dX7_walk_49 : decode cX7_walk 49 = .ok (.aload_n 0, 1) := by decide +kernel
theorem dX7_walk_50 : decode cX7_walk 50 = .ok (.getfield 10, 3) := by decide +kernel
theorem dX7_walk_53 : decode cX7_walk 53 = .ok (.invokevirtual 182, 3) := by decide +kernel
theorem dX7_walk_56 : decode cX7_walk 56 = .ok (.aload_n 0, 1) := by decide +kernel
theorem dX7_walk_57 : decode cX7_walk 57 = .ok (.iload_n 3, 1) := by decide +kernel
theorem dX7_walk_58 : decode cX7_walk 58 = .ok (.invokevirtual 186, 3) := by decide +kernel
theorem dX7_walk_61 : decode cX7_walk 61 = .ok (.istore 4, 2) := by decide +kernel
theorem dX7_walk_63 : decode cX7_walk 63 = .ok (.iload_n 2, 1) := by decide +kernel
theorem dX7_walk_64 : decode cX7_walk 64 = .ok (.ifCond .eq 23, 3) := by decide +kernel
theorem dX7_walk_67 : decode cX7_walk 67 = .ok (.iload 4, 2) := by decide +kernel
theorem dX7_walk_69 : decode cX7_walk 69 = .ok (.invokestatic 189, 3) := by decide +kernel
theorem dX7_walk_72 : decode cX7_walk 72 = .ok (.ifCond .eq 15, 3) := by decide +kernel
theorem dX7_walk_75 : decode cX7_walk 75 = .ok (.aload_n 0, 1) := by decide +kernel
theorem dX7_walk_76 : decode cX7_walk 76 = .ok (.iload_n 3, 1) := by decide +kernel
theorem dX7_walk_77 : decode cX7_walk 77 = .ok (.invokevirtual 192, 3) := by decide +kernel
theorem dX7_walk_80 : decode cX7_walk 80 = .ok (.ifCond .le 7, 3) := by decide +kernel
theorem dX7_walk_83 : decode cX7_walk 83 = .ok (.iconst 1, 1) := by decide +kernel
theorem dX7_walk_84 : decode cX7_walk 84 = .ok (.goto 4, 3) := by decide +kernel
theorem dX7_walk_87 : decode cX7_walk 87 = .ok (.iconst 0, 1) := by decide +kernel
theorem dX7_walk_88 : decode cX7_walk 88 = .ok (.istore 5, 2) := by decide +kernel
theorem dX7_walk_90 : decode cX7_walk 90 = .ok (.iload 4, 2) := by decide +kernel
theorem dX7_walk_92 : decode cX7_walk 92 = .ok (.iconst 5, 1) := by decide +kernel
theorem dX7_walk_93 : decode cX7_walk 93 = .ok (.if_icmp .eq 20, 3) := by decide +kernel
theorem dX7_walk_96 : decode cX7_walk 96 = .ok (.iload 5, 2) := by decide +kernel
theorem dX7_walk_98 : decode cX7_walk 98 = .ok (.ifCond .ne 15, 3) := by decide +kernel
theorem dX7_walk_101 : decode cX7_walk 101 = .ok (.aload_n 0, 1) := by decide +kernel
theorem dX7_walk_102 : decode cX7_walk 102 = .ok (.getfield 44, 3) := by decide +kernel
theorem dX7_walk_105 : decode cX7_walk 105 = .ok (.iload 4, 2) := by decide +kernel
theorem dX7_walk_107 : decode cX7_walk 107 = .ok (.putfield 113, 3) := by decide +kernel
theorem dX7_walk_110 : decode cX7_walk 110 = .ok (.goto 85, 3) := by decide +kernel
theorem dX7_walk_113 : decode cX7_walk 113 = .ok (.iload_n 3, 1) := by decide +kernel
theorem dX7_walk_114 : decode cX7_walk 114 = .ok (.iconst 1, 1) := by decide +kernel
theorem dX7_walk_115 : decode cX7_walk 115 = .ok (.iadd, 1) := by decide +kernel
theorem dX7_walk_116 : decode cX7_walk 116 = .ok (.bipush 20, 2) := by decide +kernel
theorem dX7_walk_118 : decode cX7_walk 118 = .ok (.if_icmp .lt 14, 3) := by decide +kernel
theorem dX7_walk_121 : decode cX7_walk 121 = .ok (.aload_n 0, 1) := by decide +kernel
theorem dX7_walk_122 : decode cX7_walk 122 = .ok (.getfield 44, 3) := by decide +kernel
theorem dX7_walk_125 : decode cX7_walk 125 = .ok (.iconst 4, 1) := by decide +kernel
theorem dX7_walk_126 : decode cX7_walk 126 = .ok (.putfield 113, 3) := by decide +kernel
theorem dX7_walk_129 : decode cX7_walk 129 = .ok (.goto 66, 3) := by decide +kernel
theorem dX7_walk_132 : decode cX7_walk 132 = .ok (.iload 5, 2) := by decide +kernel
theorem dX7_walk_134 : decode cX7_walk 134 = .ok (.ifCond .eq 36, 3) := by decide +kernel
theorem dX7_walk_137 : decode cX7_walk 137 = .ok (.aload_n 0, 1) := by decide +kernel
theorem dX7_walk_138 : decode cX7_walk 138 = .ok (.getfield 44, 3) := by decide +kernel
theorem dX7_walk_141 : decode cX7_walk 141 = .ok (.iload_n 3, 1) := by decide +kernel
theorem dX7_walk_142 : decode cX7_walk 142 = .ok (.aload_n 0, 1) := by decide +kernel
theorem dX7_walk_143 : decode cX7_walk 143 = .ok (.getfield 10, 3) := by decide +kernel
theorem dX7_walk_146 : decode cX7_walk 146 = .ok (.getfield 175, 3) := by decide +kernel
theorem dX7_walk_149 : decode cX7_walk 149 = .ok (.aload_n 0, 1) := by decide +kernel
theorem dX7_walk_150 : decode cX7_walk 150 = .ok (.getfield 51, 3) := by decide +kernel
theorem dX7_walk_153 : decode cX7_walk 153 = .ok (.invokevirtual 195, 3) := by decide +kernel
theorem dX7_walk_156 : decode cX7_walk 156 = .ok (.iaload, 1) := by decide +kernel
theorem dX7_walk_157 : decode cX7_walk 157 = .ok (.aload_n 0, 1) := by decide +kernel
theorem dX7_walk_158 : decode cX7_walk 158 = .ok (.getfield 51, 3) := by decide +kernel
theorem dX7_walk_161 : decode cX7_walk 161 = .ok (.invokevirtual 195, 3) := by decide +kernel
theorem dX7_walk_164 : decode cX7_walk 164 = .ok (.invokevirtual 198, 3) := by decide +kernel
theorem dX7_walk_167 : decode cX7_walk 167 = .ok (.goto 22, 3) := by decide +kernel
theorem dX7_walk_170 : decode cX7_walk 170 = .ok (.aload_n 0, 1) := by decide +kernel
theorem dX7_walk_171 : decode cX7_walk 171 = .ok (.getfield 44, 3) := by decide +kernel
theorem dX7_walk_174 : decode cX7_walk 174 = .ok (.iload_n 3, 1) := by decide +kernel
theorem dX7_walk_175 : decode cX7_walk 175 = .ok (.aload_n 0, 1) := by decide +kernel
theorem dX7_walk_176 : decode cX7_walk 176 = .ok (.getfield 37, 3) := by decide +kernel
theorem dX7_walk_179 : decode cX7_walk 179 = .ok (.aload_n 0, 1) := by decide +kernel
theorem dX7_walk_180 : decode cX7_walk 180 = .ok (.getfield 10, 3) := by decide +kernel
theorem dX7_walk_183 : decode cX7_walk 183 = .ok (.getfield 175, 3) := by decide +kernel
theorem dX7_walk_186 : decode cX7_walk 186 = .ok (.invokevirtual 202, 3) := by decide +kernel
theorem dX7_walk_189 : decode cX7_walk 189 = .ok (.iinc 3 1, 3) := by decide +kernel
theorem dX7_walk_192 : decode cX7_walk 192 = .ok (.goto (-154), 3) := by decide +kernel
theorem dX7_walk_195 : decode cX7_walk 195 = .ok (.aload_n 0, 1) := by decide +kernel
theorem dX7_walk_196 : decode cX7_walk 196 = .ok (.getfield 44, 3) := by decide +kernel
theorem dX7_walk_199 : decode cX7_walk 199 = .ok (.getfield 112, 3) := by decide +kernel
theorem dX7_walk_202 : decode cX7_walk 202 = .ok (.ireturn, 1) := by decide +kernel
set_option maxRecDepth 20000 in
theorem ggX7_frame_X5_has : GoodIn wsX7_frame wsX5_has := goodIn_r _ [6, 7, 29, 30, 31, 32, 33, 34, 35, 36, 37] rfl rfl
set_option maxRecDepth 20000 in
theorem gX7_frame_X5_has : GoodIn wsX7_frame (wsV RX7 206 RX5 yX5_has wsX5_has) := goodIn_app (goodIn_of _ (by decide +kernel)) ggX7_frame_X5_has
set_option maxRecDepth 20000 in
theorem ggX7_frame_X7_isRegister : GoodIn wsX7_frame wsX7_isRegister := goodIn_r _ [11] rfl rfl
set_option maxRecDepth 20000 in
theorem gX7_frame_X7_isRegister : GoodIn wsX7_frame (va_wsS RX7 157 yX7_isRegister wsX7_isRegister) := goodIn_app (goodIn_of _ (by decide +kernel)) ggX7_frame_X7_isRegister
set_option maxRecDepth 20000 in
theorem ggX7_frame_X5_register : GoodIn wsX7_frame wsX5_register := goodIn_r _ [15, 16, 17, 3, 4, 5, 6, 7, 9, 10, 11, 29, 30, 31, 32, 33, 34, 35, 36, 37] rfl rfl
set_option maxRecDepth 20000 in
theorem gX7_frame_X5_register : GoodIn wsX7_frame (wsV RX7 207 RX5 yX5_register wsX5_register) := goodIn_app (goodIn_of _ (by decide +kernel)) ggX7_frame_X5_register
theorem dX7_frame_0 : decode cX7_frame 0 = .ok (.aload_n 0, 1) := by decide +kernel
theorem dX7_frame_1 : decode cX7_frame 1 = .ok (.getfield 44, 3) := by decide +kernel
theorem dX7_frame_4 : decode cX7_frame 4 = .ok (.iload_n 1, 1) := by decide +kernel
theorem dX7_frame_5 : decode cX7_frame 5 = .ok (.invokevirtual 206, 3) := by decide +kernel
theorem dX7_frame_8 : decode cX7_frame 8 = .ok (.ifCond .eq 10, 3) := by decide +kernel
theorem dX7_frame_11 : decode cX7_frame 11 = .ok (.iload_n 2, 1) := by decide +kernel
theorem dX7_frame_12 : decode cX7_frame 12 = .ok (.invokestatic 157, 3) := by decide +kernel
theorem dX7_frame_15 : decode cX7_frame 15 = .ok (.ifCond .ne 5, 3) := by decide +kernel
theorem dX7_frame_18 : decode cX7_frame 18 = .ok (.iconst (-1), 1) := by decide +kernel
theorem dX7_frame_19 : decode cX7_frame 19 = .ok (.ireturn, 1) := by decide +kernel
theorem dX7_frame_20 : decode cX7_frame 20 = .ok (.aload_n 0, 1) := by decide +kernel
theorem dX7_frame_21 : decode cX7_frame 21 = .ok (.getfield 44, 3) := by decide +kernel
theorem dX7_frame_24 : decode cX7_frame 24 = .ok (.iload_n 1, 1) := by decide +kernel
theorem dX7_frame_25 : decode cX7_frame 25 = .ok (.iload_n 2, 1) := by decide +kernel
theorem dX7_frame_26 : decode cX7_frame 26 = .ok (.invokevirtual 207, 3) := by decide +kernel
theorem dX7_frame_29 : decode cX7_frame 29 = .ok (.ireturn, 1) := by decide +kernel
set_option maxRecDepth 20000 in
theorem ggX7_came_X5_has : GoodIn wsX7_came wsX5_has := goodIn_r _ [6, 7, 19, 20, 21, 22, 23, 24, 25, 26, 27] rfl rfl
set_option maxRecDepth 20000 in
theorem gX7_came_X5_has : GoodIn wsX7_came (wsV RX7 206 RX5 yX5_has wsX5_has) := goodIn_app (goodIn_of _ (by decide +kernel)) ggX7_came_X5_has
theorem dX7_came_0 : decode cX7_came 0 = .ok (.aload_n 0, 1) := by decide +kernel
theorem dX7_came_1 : decode cX7_came 1 = .ok (.getfield 44, 3) := by decide +kernel
theorem dX7_came_4 : decode cX7_came 4 = .ok (.iload_n 1, 1) := by decide +kernel
theorem dX7_came_5 : decode cX7_came 5 = .ok (.invokevirtual 206, 3) := by decide +kernel
theorem dX7_came_8 : decode cX7_came 8 = .ok (.ifCond .ne 5, 3) := by decide +kernel
theorem dX7_came_11 : decode cX7_came 11 = .ok (.iconst (-1), 1) := by decide +kernel
theorem dX7_came_12 : decode cX7_came 12 = .ok (.ireturn, 1) := by decide +kernel
theorem dX7_came_13 : decode cX7_came 13 = .ok (.iload_n 2, 1) := by decide +kernel
theorem dX7_came_14 : decode cX7_came 14 = .ok (.tableswitch 56 0 2 #[26, 36, 46], 26) := by decide +kernel
theorem dX7_came_40 : decode cX7_came 40 = .ok (.aload_n 0, 1) := by decide +kernel
theorem dX7_came_41 : decode cX7_came 41 = .ok (.getfield 44, 3) := by decide +kernel
theorem dX7_came_44 : decode cX7_came 44 = .ok (.getfield 210, 3) := by decide +kernel
theorem dX7_came_47 : decode cX7_came 47 = .ok (.iload_n 1, 1) := by decide +kernel
theorem dX7_came_48 : decode cX7_came 48 = .ok (.iaload, 1) := by decide +kernel
theorem dX7_came_49 : decode cX7_came 49 = .ok (.ireturn, 1) := by decide +kernel
theorem dX7_came_50 : decode cX7_came 50 = .ok (.aload_n 0, 1) := by decide +kernel
theorem dX7_came_51 : decode cX7_came 51 = .ok (.getfield 44, 3) := by decide +kernel
theorem dX7_came_54 : decode cX7_came 54 = .ok (.getfield 213, 3) := by decide +kernel
theorem dX7_came_57 : decode cX7_came 57 = .ok (.iload_n 1, 1) := by decide +kernel
theorem dX7_came_58 : decode cX7_came 58 = .ok (.iaload, 1) := by decide +kernel
theorem dX7_came_59 : decode cX7_came 59 = .ok (.ireturn, 1) := by decide +kernel
theorem dX7_came_60 : decode cX7_came 60 = .ok (.aload_n 0, 1) := by decide +kernel
theorem dX7_came_61 : decode cX7_came 61 = .ok (.getfield 44, 3) := by decide +kernel
theorem dX7_came_64 : decode cX7_came 64 = .ok (.getfield 216, 3) := by decide +kernel
theorem dX7_came_67 : decode cX7_came 67 = .ok (.iload_n 1, 1) := by decide +kernel
theorem dX7_came_68 : decode cX7_came 68 = .ok (.iaload, 1) := by decide +kernel
theorem dX7_came_69 : decode cX7_came 69 = .ok (.ireturn, 1) := by decide +kernel
theorem dX7_came_70 : decode cX7_came 70 = .ok (.iconst (-1), 1) := by decide +kernel
theorem dX7_came_71 : decode cX7_came 71 = .ok (.ireturn, 1) := by decide +kernel
set_option maxRecDepth 20000 in
theorem ggX7_guess_X7_isWord : GoodIn wsX7_guess wsX7_isWord := goodIn_r _ [6] rfl rfl
set_option maxRecDepth 20000 in
theorem gX7_guess_X7_isWord : GoodIn wsX7_guess (va_wsS RX7 172 yX7_isWord wsX7_isWord) := goodIn_app (goodIn_of _ (by decide +kernel)) ggX7_guess_X7_isWord
set_option maxRecDepth 20000 in
theorem ggX7_guess_X3_has : GoodIn wsX7_guess wsX3_has := goodIn_r _ [11, 12, 82, 83, 84] rfl rfl
set_option maxRecDepth 20000 in
theorem gX7_guess_X3_has : GoodIn wsX7_guess (wsV RX7 123 RX3 yX3_has wsX3_has) := goodIn_app (goodIn_of _ (by decide +kernel)) ggX7_guess_X3_has
set_option maxRecDepth 20000 in
theorem ggX7_guess_X0_lookThrough : GoodIn wsX7_guess wsX0_lookThrough := goodIn_r _ [17, 18, 4, 5, 6, 19, 20, 16, 21, 22, 23, 24, 25, 26, 27, 28, 29, 30, 31, 32, 33, 34, 10, 35, 12, 36, 37, 38, 39, 40, 41, 42, 43, 44, 45, 46, 47, 48, 49, 50, 51, 52, 53, 54, 55, 56, 57, 58, 59, 60, 61, 79, 80, 81, 73, 74, 75, 76, 77, 78, 82, 83, 84] rfl rfl
set_option maxRecDepth 20000 in
theorem gX7_guess_X0_lookThrough : GoodIn wsX7_guess (wsV RX7 219 RX0 yX0_lookThrough wsX0_lookThrough) := goodIn_app (goodIn_of _ (by decide +kernel)) ggX7_guess_X0_lookThrough
theorem dX7_guess_0 : decode cX7_guess 0 = .ok (.iload_n 1, 1) := by decide +kernel
theorem dX7_guess_1 : decode cX7_guess 1 = .ok (.invokestatic 172, 3) := by decide +kernel
theorem dX7_guess_4 : decode cX7_guess 4 = .ok (.ifCond .eq 18, 3) := by decide +kernel
theorem dX7_guess_7 : decode cX7_guess 7 = .ok (.iload_n 3, 1) := by decide +kernel
theorem dX7_guess_8 : decode cX7_guess 8 = .ok (.ifCond .lt 14, 3) := by decide +kernel
theorem dX7_guess_11 : decode cX7_guess 11 = .ok (.iload 4, 2) := by decide +kernel
theorem dX7_guess_13 : decode cX7_guess 13 = .ok (.ifCond .lt 9, 3) := by decide +kernel
theorem dX7_guess_16 : decode cX7_guess 16 = .ok (.iload 4, 2) := by decide +kernel
theorem dX7_guess_18 : decode cX7_guess 18 = .ok (.iconst 1, 1) := by decide +kernel
theorem dX7_guess_19 : decode cX7_guess 19 = .ok (.if_icmp .le 5, 3) := by decide +kernel
theorem dX7_guess_22 : decode cX7_guess 22 = .ok (.iconst (-1), 1) := by decide +kernel
theorem dX7_guess_23 : decode cX7_guess 23 = .ok (.ireturn, 1) := by decide +kernel
theorem dX7_guess_24 : decode cX7_guess 24 = .ok (.iload_n 2, 1) := by decide +kernel
theorem dX7_guess_25 : decode cX7_guess 25 = .ok (.bipush (-4), 2) := by decide +kernel
theorem dX7_guess_27 : decode cX7_guess 27 = .ok (.if_icmp .eq 19, 3) := by decide +kernel
theorem dX7_guess_30 : decode cX7_guess 30 = .ok (.aload_n 0, 1) := by decide +kernel
theorem dX7_guess_31 : decode cX7_guess 31 = .ok (.getfield 10, 3) := by decide +kernel
theorem dX7_guess_34 : decode cX7_guess 34 = .ok (.getfield 90, 3) := by decide +kernel
theorem dX7_guess_37 : decode cX7_guess 37 = .ok (.iload_n 2, 1) := by decide +kernel
theorem dX7_guess_38 : decode cX7_guess 38 = .ok (.invokevirtual 123, 3) := by decide +kernel
theorem dX7_guess_41 : decode cX7_guess 41 = .ok (.ifCond .ne 5, 3) := by decide +kernel
theorem dX7_guess_44 : decode cX7_guess 44 = .ok (.iconst (-1), 1) := by decide +kernel
theorem dX7_guess_45 : decode cX7_guess 45 = .ok (.ireturn, 1) := by decide +kernel
theorem dX7_guess_46 : decode cX7_guess 46 = .ok (.aload_n 0, 1) := by decide +kernel
theorem dX7_guess_47 : decode cX7_guess 47 = .ok (.getfield 51, 3) := by decide +kernel
theorem dX7_guess_50 : decode cX7_guess 50 = .ok (.aload_n 0, 1) := by decide +kernel
theorem dX7_guess_51 : decode cX7_guess 51 = .ok (.getfield 10, 3) := by decide +kernel
theorem dX7_guess_54 : decode cX7_guess 54 = .ok (.iload_n 1, 1) := by decide +kernel
theorem dX7_guess_55 : decode cX7_guess 55 = .ok (.iload_n 2, 1) := by decide +kernel
theorem dX7_guess_56 : decode cX7_guess 56 = .ok (.invokevirtual 219, 3) := by decide +kernel
theorem dX7_guess_59 : decode cX7_guess 59 = .ok (.iload_n 3, 1) := by decide +kernel
theorem dX7_guess_60 : decode cX7_guess 60 = .ok (.aload_n 0, 1) := by decide +kernel
theorem dX7_guess_61 : decode cX7_guess 61 = .ok (.getfield 51, 3) := by decide +kernel
theorem dX7_guess_64 : decode cX7_guess 64 = .ok (.getfield 222, 3) := by decide +kernel
theorem dX7_guess_67 : decode cX7_guess 67 = .ok (.if_icmp .lt 6, 3) := by decide +kernel
theorem dX7_guess_70 : decode cX7_guess 70 = .ok (.bipush (-4), 2) := by decide +kernel
theorem dX7_guess_72 : decode cX7_guess 72 = .ok (.ireturn, 1) := by decide +kernel
theorem dX7_guess_73 : decode cX7_guess 73 = .ok (.iload 4, 2) := by decide +kernel
theorem dX7_guess_75 : decode cX7_guess 75 = .ok (.ifCond .ne 15, 3) := by decide +kernel
theorem dX7_guess_78 : decode cX7_guess 78 = .ok (.aload_n 0, 1) := by decide +kernel
theorem dX7_guess_79 : decode cX7_guess 79 = .ok (.getfield 51, 3) := by decide +kernel
theorem dX7_guess_82 : decode cX7_guess 82 = .ok (.getfield 223, 3) := by decide +kernel
theorem dX7_guess_85 : decode cX7_guess 85 = .ok (.iload_n 3, 1) := by decide +kernel
theorem dX7_guess_86 : decode cX7_guess 86 = .ok (.iaload, 1) := by decide +kernel
theorem dX7_guess_87 : decode cX7_guess 87 = .ok (.goto 12, 3) := by decide +kernel
theorem dX7_guess_90 : decode cX7_guess 90 = .ok (.aload_n 0, 1) := by decide +kernel
theorem dX7_guess_91 : decode cX7_guess 91 = .ok (.getfield 51, 3) := by decide +kernel
theorem dX7_guess_94 : decode cX7_guess 94 = .ok (.getfield 226, 3) := by decide +kernel
theorem dX7_guess_97 : decode cX7_guess 97 = .ok (.iload_n 3, 1) := by decide +kernel
theorem dX7_guess_98 : decode cX7_guess 98 = .ok (.iaload, 1) := by decide +kernel
theorem dX7_guess_99 : decode cX7_guess 99 = .ok (.ireturn, 1) := by decide +kernel
set_option maxRecDepth 20000 in
theorem ggX7_caught_X7_isThrown : GoodIn wsX7_caught wsX7_isThrown := goodIn_r _ [5] rfl rfl
set_option maxRecDepth 20000 in
theorem gX7_caught_X7_isThrown : GoodIn wsX7_caught (va_wsS RX7 229 yX7_isThrown wsX7_isThrown) := goodIn_app (goodIn_of _ (by decide +kernel)) ggX7_caught_X7_isThrown
set_option maxRecDepth 20000 in
theorem ggX7_caught_X7_catcherOf : GoodIn wsX7_caught wsX7_catcherOf := goodIn_r _ [9, 1, 10, 11, 12, 4, 13, 14, 15, 16, 17, 18, 19, 20, 21, 22, 23, 24, 25, 26, 27, 28, 29, 30, 31, 32, 33, 34, 35, 36, 37, 38, 39, 40, 41, 42, 43, 44, 45, 46, 47, 48, 49, 50, 51, 52, 53, 54, 55] rfl rfl
set_option maxRecDepth 20000 in
theorem gX7_caught_X7_catcherOf : GoodIn wsX7_caught (wsV RX7 232 RX7 yX7_catcherOf wsX7_catcherOf) := goodIn_app (goodIn_of _ (by decide +kernel)) ggX7_caught_X7_catcherOf
set_option maxRecDepth 20000 in
theorem ggX7_caught_X7_catchIn : GoodIn wsX7_caught wsX7_catchIn := goodIn_r _ [13, 14, 15, 16, 17, 18, 19, 20, 21, 22, 23, 24, 25, 4, 26, 1, 27, 28, 29, 30, 31, 32, 33, 34, 35, 36, 37, 47, 48, 49, 50, 51, 52, 53, 54, 55, 38, 39, 40, 41, 42, 43, 44, 45, 46] rfl rfl
set_option maxRecDepth 20000 in
theorem gX7_caught_X7_catchIn : GoodIn wsX7_caught (wsV RX7 235 RX7 yX7_catchIn wsX7_catchIn) := goodIn_app (goodIn_of _ (by decide +kernel)) ggX7_caught_X7_catchIn
theorem dX7_caught_0 : decode cX7_caught 0 = .ok (.iload_n 1, 1) := by decide +kernel
theorem dX7_caught_1 : decode cX7_caught 1 = .ok (.invokestatic 229, 3) := by decide +kernel
theorem dX7_caught_4 : decode cX7_caught 4 = .ok (.ifCond .eq 12, 3) := by decide +kernel
theorem dX7_caught_7 : decode cX7_caught 7 = .ok (.iload_n 2, 1) := by decide +kernel
theorem dX7_caught_8 : decode cX7_caught 8 = .ok (.ifCond .lt 8, 3) := by decide +kernel
theorem dX7_caught_11 : decode cX7_caught 11 = .ok (.iload_n 2, 1) := by decide +kernel
theorem dX7_caught_12 : decode cX7_caught 12 = .ok (.iconst 1, 1) := by decide +kernel
theorem dX7_caught_13 : decode cX7_caught 13 = .ok (.if_icmp .le 5, 3) := by decide +kernel
theorem dX7_caught_16 : decode cX7_caught 16 = .ok (.iconst (-1), 1) := by decide +kernel
theorem dX7_caught_17 : decode cX7_caught 17 = .ok (.ireturn, 1) := by decide +kernel
theorem dX7_caught_18 : decode cX7_caught 18 = .ok (.aload_n 0, 1) := by decide +kernel
theorem dX7_caught_19 : decode cX7_caught 19 = .ok (.getfield 44, 3) := by decide +kernel
theorem dX7_caught_22 : decode cX7_caught 22 = .ok (.getfield 108, 3) := by decide +kernel
theorem dX7_caught_25 : decode cX7_caught 25 = .ok (.ifCond .ne 6, 3) := by decide +kernel
theorem dX7_caught_28 : decode cX7_caught 28 = .ok (.bipush (-2), 2) := by decide +kernel
theorem dX7_caught_30 : decode cX7_caught 30 = .ok (.ireturn, 1) := by decide +kernel
theorem dX7_caught_31 : decode cX7_caught 31 = .ok (.aload_n 0, 1) := by decide +kernel
theorem dX7_caught_32 : decode cX7_caught 32 = .ok (.iload_n 1, 1) := by decide +kernel
theorem dX7_caught_33 : decode cX7_caught 33 = .ok (.invokevirtual 232, 3) := by decide +kernel
theorem dX7_caught_36 : decode cX7_caught 36 = .ok (.istore_n 3, 1) := by decide +kernel
theorem dX7_caught_37 : decode cX7_caught 37 = .ok (.iload_n 3, 1) := by decide +kernel
theorem dX7_caught_38 : decode cX7_caught 38 = .ok (.bipush (-4), 2) := by decide +kernel
theorem dX7_caught_40 : decode cX7_caught 40 = .ok (.if_icmp .eq 7, 3) := by decide +kernel
theorem dX7_caught_43 : decode cX7_caught 43 = .ok (.iload_n 2, 1) := by decide +kernel
theorem dX7_caught_44 : decode cX7_caught 44 = .ok (.ifCond .ne 5, 3) := by decide +kernel
theorem dX7_caught_47 : decode cX7_caught 47 = .ok (.iload_n 3, 1) := by decide +kernel
theorem dX7_caught_48 : decode cX7_caught 48 = .ok (.ireturn, 1) := by decide +kernel
theorem dX7_caught_49 : decode cX7_caught 49 = .ok (.aload_n 0, 1) := by decide +kernel
theorem dX7_caught_50 : decode cX7_caught 50 = .ok (.iload_n 3, 1) := by decide +kernel
theorem dX7_caught_51 : decode cX7_caught 51 = .ok (.iload_n 1, 1) := by decide +kernel
theorem dX7_caught_52 : decode cX7_caught 52 = .ok (.invokevirtual 235, 3) := by decide +kernel
theorem dX7_caught_55 : decode cX7_caught 55 = .ok (.ireturn, 1) := by decide +kernel
set_option maxRecDepth 20000 in
theorem ggX7_cleaned_X7_isThrown : GoodIn wsX7_cleaned wsX7_isThrown := goodIn_r _ [6] rfl rfl
set_option maxRecDepth 20000 in
theorem gX7_cleaned_X7_isThrown : GoodIn wsX7_cleaned (va_wsS RX7 229 yX7_isThrown wsX7_isThrown) := goodIn_app (goodIn_of _ (by decide +kernel)) ggX7_cleaned_X7_isThrown
set_option maxRecDepth 20000 in
theorem ggX7_cleaned_X7_catcherOf : GoodIn wsX7_cleaned wsX7_catcherOf := goodIn_r _ [10, 1, 11, 12, 13, 5, 14, 2, 15, 16, 17, 18, 19, 20, 21, 22, 23, 24, 25, 26, 27, 28, 29, 30, 31, 32, 33, 34, 35, 36, 37, 38, 39, 40, 41, 42, 43, 44, 45, 46, 47, 48, 49, 50, 51, 52, 53, 54, 55] rfl rfl
set_option maxRecDepth 20000 in
theorem gX7_cleaned_X7_catcherOf : GoodIn wsX7_cleaned (wsV RX7 232 RX7 yX7_catcherOf wsX7_catcherOf) := goodIn_app (goodIn_of _ (by decide +kernel)) ggX7_cleaned_X7_catcherOf
set_option maxRecDepth 20000 in
theorem ggX7_cleaned_X7_landsIn : GoodIn wsX7_cleaned wsX7_landsIn := goodIn_r _ [26, 2, 1, 15, 16, 17, 18, 19, 20, 21, 22, 27, 28, 29, 30, 31, 32, 33, 34, 35, 36, 37, 47, 48, 49, 50, 51, 52, 38, 39, 40, 41, 42, 43, 44, 45, 46, 53, 54, 55] rfl rfl
set_option maxRecDepth 20000 in
theorem gX7_cleaned_X7_landsIn : GoodIn wsX7_cleaned (wsV RX7 238 RX7 yX7_landsIn wsX7_landsIn) := goodIn_app (goodIn_of _ (by decide +kernel)) ggX7_cleaned_X7_landsIn
set_option maxRecDepth 20000 in
theorem ggX7_cleaned_X3_at : GoodIn wsX7_cleaned wsX3_at := goodIn_r _ [19, 20, 21, 22, 53, 54, 55] rfl rfl
set_option maxRecDepth 20000 in
theorem gX7_cleaned_X3_at : GoodIn wsX7_cleaned (wsV RX7 127 RX3 yX3_at wsX3_at) := goodIn_app (goodIn_of _ (by decide +kernel)) ggX7_cleaned_X3_at
theorem dX7_cleaned_0 : decode cX7_cleaned 0 = .ok (.iload_n 1, 1) := by decide +kernel
theorem dX7_cleaned_1 : decode cX7_cleaned 1 = .ok (.invokestatic 229, 3) := by decide +kernel
theorem dX7_cleaned_4 : decode cX7_cleaned 4 = .ok (.ifCond .eq 7, 3) := by decide +kernel
theorem dX7_cleaned_7 : decode cX7_cleaned 7 = .ok (.iload_n 2, 1) := by decide +kernel
theorem dX7_cleaned_8 : decode cX7_cleaned 8 = .ok (.ifCond .ge 5, 3) := by decide +kernel
theorem dX7_cleaned_11 : decode cX7_cleaned 11 = .ok (.iconst (-1), 1) := by decide +kernel
theorem dX7_cleaned_12 : decode cX7_cleaned 12 = .ok (.ireturn, 1) := by decide +kernel
theorem dX7_cleaned_13 : decode cX7_cleaned 13 = .ok (.aload_n 0, 1) := by decide +kernel
theorem dX7_cleaned_14 : decode cX7_cleaned 14 = .ok (.getfield 44, 3) := by decide +kernel
theorem dX7_cleaned_17 : decode cX7_cleaned 17 = .ok (.getfield 108, 3) := by decide +kernel
theorem dX7_cleaned_20 : decode cX7_cleaned 20 = .ok (.ifCond .ne 6, 3) := by decide +kernel
theorem dX7_cleaned_23 : decode cX7_cleaned 23 = .ok (.bipush (-2), 2) := by decide +kernel
theorem dX7_cleaned_25 : decode cX7_cleaned 25 = .ok (.ireturn, 1) := by decide +kernel
theorem dX7_cleaned_26 : decode cX7_cleaned 26 = .ok (.aload_n 0, 1) := by decide +kernel
theorem dX7_cleaned_27 : decode cX7_cleaned 27 = .ok (.iload_n 1, 1) := by decide +kernel
theorem dX7_cleaned_28 : decode cX7_cleaned 28 = .ok (.invokevirtual 232, 3) := by decide +kernel
theorem dX7_cleaned_31 : decode cX7_cleaned 31 = .ok (.istore_n 3, 1) := by decide +kernel
theorem dX7_cleaned_32 : decode cX7_cleaned 32 = .ok (.iconst 0, 1) := by decide +kernel
theorem dX7_cleaned_33 : decode cX7_cleaned 33 = .ok (.istore 4, 2) := by decide +kernel
theorem dX7_cleaned_35 : decode cX7_cleaned 35 = .ok (.iconst 0, 1) := by decide +kernel
theorem dX7_cleaned_36 : decode cX7_cleaned 36 = .ok (.istore 5, 2) := by decide +kernel
theorem dX7_cleaned_38 : decode cX7_cleaned 38 = .ok (.iload 5, 2) := by decide +kernel
theorem dX7_cleaned_40 : decode cX7_cleaned 40 = .ok (.iload_n 3, 1) := by decide +kernel
theorem dX7_cleaned_41 : decode cX7_cleaned 41 = .ok (.if_icmp .ge 81, 3) := by decide +kernel
theorem dX7_cleaned_44 : decode cX7_cleaned 44 = .ok (.iconst 0, 1) := by decide +kernel
theorem dX7_cleaned_45 : decode cX7_cleaned 45 = .ok (.istore 6, 2) := by decide +kernel
theorem dX7_cleaned_47 : decode cX7_cleaned 47 = .ok (.iload 6, 2) := by decide +kernel
theorem dX7_cleaned_49 : decode cX7_cleaned 49 = .ok (.aload_n 0, 1) := by decide +kernel
theorem dX7_cleaned_50 : decode cX7_cleaned 50 = .ok (.getfield 10, 3) := by decide +kernel
theorem dX7_cleaned_53 : decode cX7_cleaned 53 = .ok (.getfield 102, 3) := by decide +kernel
theorem dX7_cleaned_56 : decode cX7_cleaned 56 = .ok (.getfield 94, 3) := by decide +kernel
theorem dX7_cleaned_59 : decode cX7_cleaned 59 = .ok (.if_icmp .ge 57, 3) := by decide +kernel
theorem dX7_cleaned_62 : decode cX7_cleaned 62 = .ok (.aload_n 0, 1) := by decide +kernel
theorem dX7_cleaned_63 : decode cX7_cleaned 63 = .ok (.iload 5, 2) := by decide +kernel
theorem dX7_cleaned_65 : decode cX7_cleaned 65 = .ok (.iload 6, 2) := by decide +kernel
theorem dX7_cleaned_67 : decode cX7_cleaned 67 = .ok (.invokevirtual 238, 3) := by decide +kernel
theorem dX7_cleaned_70 : decode cX7_cleaned 70 = .ok (.ifCond .eq 40, 3) := by decide +kernel
theorem dX7_cleaned_73 : decode cX7_cleaned 73 = .ok (.aload_n 0, 1) := by decide +kernel
theorem dX7_cleaned_74 : decode cX7_cleaned 74 = .ok (.getfield 10, 3) := by decide +kernel
theorem dX7_cleaned_77 : decode cX7_cleaned 77 = .ok (.getfield 102, 3) := by decide +kernel
theorem dX7_cleaned_80 : decode cX7_cleaned 80 = .ok (.iload 6, 2) := by decide +kernel
theorem dX7_cleaned_82 : decode cX7_cleaned 82 = .ok (.iconst 2, 1) := by decide +kernel
theorem dX7_cleaned_83 : decode cX7_cleaned 83 = .ok (.invokevirtual 127, 3) := by decide +kernel
theorem dX7_cleaned_86 : decode cX7_cleaned 86 = .ok (.ifCond .eq 6, 3) := by decide +kernel
theorem dX7_cleaned_89 : decode cX7_cleaned 89 = .ok (.goto 21, 3) := by decide +kernel
theorem dX7_cleaned_92 : decode cX7_cleaned 92 = .ok (.iload 4, 2) := by decide +kernel
theorem dX7_cleaned_94 : decode cX7_cleaned 94 = .ok (.iload_n 2, 1) := by decide +kernel
theorem dX7_cleaned_95 : decode cX7_cleaned 95 = .ok (.if_icmp .ne 12, 3) := by decide +kernel
theorem dX7_cleaned_98 : decode cX7_cleaned 98 = .ok (.bipush 100, 2) := by decide +kernel
theorem dX7_cleaned_100 : decode cX7_cleaned 100 = .ok (.iload 5, 2) := by decide +kernel
theorem dX7_cleaned_102 : decode cX7_cleaned 102 = .ok (.imul, 1) := by decide +kernel
theorem dX7_cleaned_103 : decode cX7_cleaned 103 = .ok (.iload 6, 2) := by decide +kernel
theorem dX7_cleaned_105 : decode cX7_cleaned 105 = .ok (.iadd, 1) := by decide +kernel
theorem dX7_cleaned_106 : decode cX7_cleaned 106 = .ok (.ireturn, 1) := by decide +kernel
theorem dX7_cleaned_107 : decode cX7_cleaned 107 = .ok (.iinc 4 1, 3) := by decide +kernel
theorem dX7_cleaned_110 : decode cX7_cleaned 110 = .ok (.iinc 6 1, 3) := by decide +kernel
theorem dX7_cleaned_113 : decode cX7_cleaned 113 = .ok (.goto (-66), 3) := by decide +kernel
theorem dX7_cleaned_116 : decode cX7_cleaned 116 = .ok (.iinc 5 1, 3) := by decide +kernel
theorem dX7_cleaned_119 : decode cX7_cleaned 119 = .ok (.goto (-81), 3) := by decide +kernel
theorem dX7_cleaned_122 : decode cX7_cleaned 122 = .ok (.bipush (-4), 2) := by decide +kernel
theorem dX7_cleaned_124 : decode cX7_cleaned 124 = .ok (.ireturn, 1) := by decide +kernel
set_option maxRecDepth 20000 in
theorem ggX7_move_X3_has : GoodIn wsX7_move wsX3_has := goodIn_r _ [6, 7, 42, 43, 44] rfl rfl
set_option maxRecDepth 20000 in
theorem gX7_move_X3_has : GoodIn wsX7_move (wsV RX7 123 RX3 yX3_has wsX3_has) := goodIn_app (goodIn_of _ (by decide +kernel)) ggX7_move_X3_has
set_option maxRecDepth 20000 in
theorem ggX7_move_X3_at : GoodIn wsX7_move wsX3_at := goodIn_r _ [11, 7, 12, 13, 42, 43, 44] rfl rfl
set_option maxRecDepth 20000 in
theorem gX7_move_X3_at : GoodIn wsX7_move (wsV RX7 127 RX3 yX3_at wsX3_at) := goodIn_app (goodIn_of _ (by decide +kernel)) ggX7_move_X3_at
set_option maxRecDepth 20000 in
theorem ggX7_move_X6_meets : GoodIn wsX7_move wsX6_meets := goodIn_r _ [18, 19, 20, 9, 10, 5, 11, 7, 12, 13, 36, 37, 38, 39, 40, 41, 42, 43, 44] rfl rfl
set_option maxRecDepth 20000 in
theorem gX7_move_X6_meets : GoodIn wsX7_move (wsV RX7 242 RX6 yX6_meets wsX6_meets) := goodIn_app (goodIn_of _ (by decide +kernel)) ggX7_move_X6_meets
set_option maxRecDepth 20000 in
theorem ggX7_move_X3_set : GoodIn wsX7_move wsX3_set := goodIn_r _ [24, 7, 12, 13, 42, 43, 44] rfl rfl
set_option maxRecDepth 20000 in
theorem gX7_move_X3_set : GoodIn wsX7_move (wsV RX7 246 RX3 yX3_set wsX3_set) := goodIn_app (goodIn_of _ (by decide +kernel)) ggX7_move_X3_set
theorem dX7_move_0 : decode cX7_move 0 = .ok (.aload_n 0, 1) := by decide +kernel
theorem dX7_move_1 : decode cX7_move 1 = .ok (.getfield 10, 3) := by decide +kernel
theorem dX7_move_4 : decode cX7_move 4 = .ok (.getfield 90, 3) := by decide +kernel
theorem dX7_move_7 : decode cX7_move 7 = .ok (.iload_n 1, 1) := by decide +kernel
theorem dX7_move_8 : decode cX7_move 8 = .ok (.invokevirtual 123, 3) := by decide +kernel
theorem dX7_move_11 : decode cX7_move 11 = .ok (.ifCond .eq 23, 3) := by decide +kernel
theorem dX7_move_14 : decode cX7_move 14 = .ok (.iload_n 2, 1) := by decide +kernel
theorem dX7_move_15 : decode cX7_move 15 = .ok (.ifCond .lt 19, 3) := by decide +kernel
theorem dX7_move_18 : decode cX7_move 18 = .ok (.iload_n 2, 1) := by decide +kernel
theorem dX7_move_19 : decode cX7_move 19 = .ok (.iconst 1, 1) := by decide +kernel
theorem dX7_move_20 : decode cX7_move 20 = .ok (.if_icmp .gt 14, 3) := by decide +kernel
theorem dX7_move_23 : decode cX7_move 23 = .ok (.iload_n 3, 1) := by decide +kernel
theorem dX7_move_24 : decode cX7_move 24 = .ok (.ifCond .lt 10, 3) := by decide +kernel
theorem dX7_move_27 : decode cX7_move 27 = .ok (.iload_n 3, 1) := by decide +kernel
theorem dX7_move_28 : decode cX7_move 28 = .ok (.sipush 999, 3) := by decide +kernel
theorem dX7_move_31 : decode cX7_move 31 = .ok (.if_icmp .le 5, 3) := by decide +kernel
theorem dX7_move_34 : decode cX7_move 34 = .ok (.iconst (-1), 1) := by decide +kernel
theorem dX7_move_35 : decode cX7_move 35 = .ok (.ireturn, 1) := by decide +kernel
theorem dX7_move_36 : decode cX7_move 36 = .ok (.iload_n 2, 1) := by decide +kernel
theorem dX7_move_37 : decode cX7_move 37 = .ok (.ifCond .ne 7, 3) := by decide +kernel
theorem dX7_move_40 : decode cX7_move 40 = .ok (.iload_n 3, 1) := by decide +kernel
theorem dX7_move_41 : decode cX7_move 41 = .ok (.goto 15, 3) := by decide +kernel
theorem dX7_move_44 : decode cX7_move 44 = .ok (.aload_n 0, 1) := by decide +kernel
theorem dX7_move_45 : decode cX7_move 45 = .ok (.getfield 10, 3) := by decide +kernel
theorem dX7_move_48 : decode cX7_move 48 = .ok (.getfield 90, 3) := by decide +kernel
theorem dX7_move_51 : decode cX7_move 51 = .ok (.iload_n 1, 1) := by decide +kernel
theorem dX7_move_52 : decode cX7_move 52 = .ok (.iconst 0, 1) := by decide +kernel
theorem dX7_move_53 : decode cX7_move 53 = .ok (.invokevirtual 127, 3) := by decide +kernel
theorem dX7_move_56 : decode cX7_move 56 = .ok (.istore 4, 2) := by decide +kernel
theorem dX7_move_58 : decode cX7_move 58 = .ok (.iload_n 2, 1) := by decide +kernel
theorem dX7_move_59 : decode cX7_move 59 = .ok (.iconst 1, 1) := by decide +kernel
theorem dX7_move_60 : decode cX7_move 60 = .ok (.if_icmp .ne 7, 3) := by decide +kernel
theorem dX7_move_63 : decode cX7_move 63 = .ok (.iload_n 3, 1) := by decide +kernel
theorem dX7_move_64 : decode cX7_move 64 = .ok (.goto 15, 3) := by decide +kernel
theorem dX7_move_67 : decode cX7_move 67 = .ok (.aload_n 0, 1) := by decide +kernel
theorem dX7_move_68 : decode cX7_move 68 = .ok (.getfield 10, 3) := by decide +kernel
theorem dX7_move_71 : decode cX7_move 71 = .ok (.getfield 90, 3) := by decide +kernel
theorem dX7_move_74 : decode cX7_move 74 = .ok (.iload_n 1, 1) := by decide +kernel
theorem dX7_move_75 : decode cX7_move 75 = .ok (.iconst 1, 1) := by decide +kernel
theorem dX7_move_76 : decode cX7_move 76 = .ok (.invokevirtual 127, 3) := by decide +kernel
theorem dX7_move_79 : decode cX7_move 79 = .ok (.istore 5, 2) := by decide +kernel
theorem dX7_move_81 : decode cX7_move 81 = .ok (.iload 4, 2) := by decide +kernel
theorem dX7_move_83 : decode cX7_move 83 = .ok (.iload 5, 2) := by decide +kernel
theorem dX7_move_85 : decode cX7_move 85 = .ok (.if_icmp .le 5, 3) := by decide +kernel
theorem dX7_move_88 : decode cX7_move 88 = .ok (.iconst (-1), 1) := by decide +kernel
theorem dX7_move_89 : decode cX7_move 89 = .ok (.ireturn, 1) := by decide +kernel
theorem dX7_move_90 : decode cX7_move 90 = .ok (.iconst 0, 1) := by decide +kernel
theorem dX7_move_91 : decode cX7_move 91 = .ok (.istore 6, 2) := by decide +kernel
theorem dX7_move_93 : decode cX7_move 93 = .ok (.iload 6, 2) := by decide +kernel
theorem dX7_move_95 : decode cX7_move 95 = .ok (.aload_n 0, 1) := by decide +kernel
theorem dX7_move_96 : decode cX7_move 96 = .ok (.getfield 10, 3) := by decide +kernel
theorem dX7_move_99 : decode cX7_move 99 = .ok (.getfield 90, 3) := by decide +kernel
theorem dX7_move_102 : decode cX7_move 102 = .ok (.getfield 94, 3) := by decide +kernel
theorem dX7_move_105 : decode cX7_move 105 = .ok (.if_icmp .ge 34, 3) := by decide +kernel
theorem dX7_move_108 : decode cX7_move 108 = .ok (.iload 6, 2) := by decide +kernel
theorem dX7_move_110 : decode cX7_move 110 = .ok (.iload_n 1, 1) := by decide +kernel
theorem dX7_move_111 : decode cX7_move 111 = .ok (.if_icmp .eq 22, 3) := by decide +kernel
theorem dX7_move_114 : decode cX7_move 114 = .ok (.aload_n 0, 1) := by decide +kernel
theorem dX7_move_115 : decode cX7_move 115 = .ok (.getfield 10, 3) := by decide +kernel
theorem dX7_move_118 : decode cX7_move 118 = .ok (.iload 6, 2) := by decide +kernel
theorem dX7_move_120 : decode cX7_move 120 = .ok (.iload 4, 2) := by decide +kernel
theorem dX7_move_122 : decode cX7_move 122 = .ok (.iload 5, 2) := by decide +kernel
theorem dX7_move_124 : decode cX7_move 124 = .ok (.invokevirtual 242, 3) := by decide +kernel
theorem dX7_move_127 : decode cX7_move 127 = .ok (.ifCond .eq 6, 3) := by decide +kernel
theorem dX7_move_130 : decode cX7_move 130 = .ok (.bipush (-2), 2) := by decide +kernel
theorem dX7_move_132 : decode cX7_move 132 = .ok (.ireturn, 1) := by decide +kernel
theorem dX7_move_133 : decode cX7_move 133 = .ok (.iinc 6 1, 3) := by decide +kernel
theorem dX7_move_136 : decode cX7_move 136 = .ok (.goto (-43), 3) := by decide +kernel
theorem dX7_move_139 : decode cX7_move 139 = .ok (.aload_n 0, 1) := by decide +kernel
theorem dX7_move_140 : decode cX7_move 140 = .ok (.getfield 10, 3) := by decide +kernel
theorem dX7_move_143 : decode cX7_move 143 = .ok (.getfield 90, 3) := by decide +kernel
theorem dX7_move_146 : decode cX7_move 146 = .ok (.iload_n 1, 1) := by decide +kernel
theorem dX7_move_147 : decode cX7_move 147 = .ok (.iload_n 2, 1) := by decide +kernel
theorem dX7_move_148 : decode cX7_move 148 = .ok (.invokevirtual 127, 3) := by decide +kernel
theorem dX7_move_151 : decode cX7_move 151 = .ok (.istore 6, 2) := by decide +kernel
theorem dX7_move_153 : decode cX7_move 153 = .ok (.aload_n 0, 1) := by decide +kernel
theorem dX7_move_154 : decode cX7_move 154 = .ok (.getfield 10, 3) := by decide +kernel
theorem dX7_move_157 : decode cX7_move 157 = .ok (.getfield 90, 3) := by decide +kernel
theorem dX7_move_160 : decode cX7_move 160 = .ok (.iload_n 1, 1) := by decide +kernel
theorem dX7_move_161 : decode cX7_move 161 = .ok (.iload_n 2, 1) := by decide +kernel
theorem dX7_move_162 : decode cX7_move 162 = .ok (.iload_n 3, 1) := by decide +kernel
theorem dX7_move_163 : decode cX7_move 163 = .ok (.invokevirtual 246, 3) := by decide +kernel
theorem dX7_move_166 : decode cX7_move 166 = .ok (.iload 6, 2) := by decide +kernel
theorem dX7_move_168 : decode cX7_move 168 = .ok (.ireturn, 1) := by decide +kernel
set_option maxRecDepth 20000 in
theorem ggX7_alter_X3_has : GoodIn wsX7_alter wsX3_has := goodIn_r _ [6, 7, 39, 40, 41] rfl rfl
set_option maxRecDepth 20000 in
theorem gX7_alter_X3_has : GoodIn wsX7_alter (wsV RX7 123 RX3 yX3_has wsX3_has) := goodIn_app (goodIn_of _ (by decide +kernel)) ggX7_alter_X3_has
set_option maxRecDepth 20000 in
theorem ggX7_alter_X3_at : GoodIn wsX7_alter wsX3_at := goodIn_r _ [11, 7, 12, 13, 39, 40, 41] rfl rfl
set_option maxRecDepth 20000 in
theorem gX7_alter_X3_at : GoodIn wsX7_alter (wsV RX7 127 RX3 yX3_at wsX3_at) := goodIn_app (goodIn_of _ (by decide +kernel)) ggX7_alter_X3_at
set_option maxRecDepth 20000 in
theorem ggX7_alter_X7_isRegister : GoodIn wsX7_alter wsX7_isRegister := goodIn_r _ [17] rfl rfl
set_option maxRecDepth 20000 in
theorem gX7_alter_X7_isRegister : GoodIn wsX7_alter (va_wsS RX7 157 yX7_isRegister wsX7_isRegister) := goodIn_app (goodIn_of _ (by decide +kernel)) ggX7_alter_X7_isRegister
set_option maxRecDepth 20000 in
theorem ggX7_alter_X3_set : GoodIn wsX7_alter wsX3_set := goodIn_r _ [21, 7, 12, 13, 39, 40, 41] rfl rfl
set_option maxRecDepth 20000 in
theorem gX7_alter_X3_set : GoodIn wsX7_alter (wsV RX7 246 RX3 yX3_set wsX3_set) := goodIn_app (goodIn_of _ (by decide +kernel)) ggX7_alter_X3_set
theorem dX7_alter_0 : decode cX7_alter 0 = .ok (.aload_n 0, 1) := by decide +kernel
theorem dX7_alter_1 : decode cX7_alter 1 = .ok (.getfield 10, 3) := by decide +kernel
theorem dX7_alter_4 : decode cX7_alter 4 = .ok (.getfield 99, 3) := by decide +kernel
theorem dX7_alter_7 : decode cX7_alter 7 = .ok (.iload_n 1, 1) := by decide +kernel
theorem dX7_alter_8 : decode cX7_alter 8 = .ok (.invokevirtual 123, 3) := by decide +kernel
theorem dX7_alter_11 : decode cX7_alter 11 = .ok (.ifCond .ne 5, 3) := by decide +kernel
theorem dX7_alter_14 : decode cX7_alter 14 = .ok (.iconst (-1), 1) := by decide +kernel
theorem dX7_alter_15 : decode cX7_alter 15 = .ok (.ireturn, 1) := by decide +kernel
theorem dX7_alter_16 : decode cX7_alter 16 = .ok (.aload_n 0, 1) := by decide +kernel
theorem dX7_alter_17 : decode cX7_alter 17 = .ok (.getfield 10, 3) := by decide +kernel
theorem dX7_alter_20 : decode cX7_alter 20 = .ok (.getfield 99, 3) := by decide +kernel
theorem dX7_alter_23 : decode cX7_alter 23 = .ok (.iload_n 1, 1) := by decide +kernel
theorem dX7_alter_24 : decode cX7_alter 24 = .ok (.iconst 0, 1) := by decide +kernel
theorem dX7_alter_25 : decode cX7_alter 25 = .ok (.invokevirtual 127, 3) := by decide +kernel
theorem dX7_alter_28 : decode cX7_alter 28 = .ok (.istore_n 3, 1) := by decide +kernel
theorem dX7_alter_29 : decode cX7_alter 29 = .ok (.iload_n 3, 1) := by decide +kernel
theorem dX7_alter_30 : decode cX7_alter 30 = .ok (.iconst 5, 1) := by decide +kernel
theorem dX7_alter_31 : decode cX7_alter 31 = .ok (.if_icmp .ne 12, 3) := by decide +kernel
theorem dX7_alter_34 : decode cX7_alter 34 = .ok (.iload_n 2, 1) := by decide +kernel
theorem dX7_alter_35 : decode cX7_alter 35 = .ok (.invokestatic 157, 3) := by decide +kernel
theorem dX7_alter_38 : decode cX7_alter 38 = .ok (.istore 4, 2) := by decide +kernel
theorem dX7_alter_40 : decode cX7_alter 40 = .ok (.goto 39, 3) := by decide +kernel
theorem dX7_alter_43 : decode cX7_alter 43 = .ok (.iload_n 3, 1) := by decide +kernel
theorem dX7_alter_44 : decode cX7_alter 44 = .ok (.ifCond .eq 18, 3) := by decide +kernel
theorem dX7_alter_47 : decode cX7_alter 47 = .ok (.iload_n 3, 1) := by decide +kernel
theorem dX7_alter_48 : decode cX7_alter 48 = .ok (.iconst 1, 1) := by decide +kernel
theorem dX7_alter_49 : decode cX7_alter 49 = .ok (.if_icmp .eq 13, 3) := by decide +kernel
theorem dX7_alter_52 : decode cX7_alter 52 = .ok (.iload_n 3, 1) := by decide +kernel
theorem dX7_alter_53 : decode cX7_alter 53 = .ok (.iconst 2, 1) := by decide +kernel
theorem dX7_alter_54 : decode cX7_alter 54 = .ok (.if_icmp .eq 8, 3) := by decide +kernel
theorem dX7_alter_57 : decode cX7_alter 57 = .ok (.iload_n 3, 1) := by decide +kernel
theorem dX7_alter_58 : decode cX7_alter 58 = .ok (.iconst 3, 1) := by decide +kernel
theorem dX7_alter_59 : decode cX7_alter 59 = .ok (.if_icmp .ne 17, 3) := by decide +kernel
theorem dX7_alter_62 : decode cX7_alter 62 = .ok (.iload_n 2, 1) := by decide +kernel
theorem dX7_alter_63 : decode cX7_alter 63 = .ok (.ifCond .lt 13, 3) := by decide +kernel
theorem dX7_alter_66 : decode cX7_alter 66 = .ok (.iload_n 2, 1) := by decide +kernel
theorem dX7_alter_67 : decode cX7_alter 67 = .ok (.bipush 99, 2) := by decide +kernel
theorem dX7_alter_69 : decode cX7_alter 69 = .ok (.if_icmp .gt 7, 3) := by decide +kernel
theorem dX7_alter_72 : decode cX7_alter 72 = .ok (.iconst 1, 1) := by decide +kernel
theorem dX7_alter_73 : decode cX7_alter 73 = .ok (.goto 4, 3) := by decide +kernel
theorem dX7_alter_76 : decode cX7_alter 76 = .ok (.iconst 0, 1) := by decide +kernel
theorem dX7_alter_77 : decode cX7_alter 77 = .ok (.istore 4, 2) := by decide +kernel
theorem dX7_alter_79 : decode cX7_alter 79 = .ok (.iload 4, 2) := by decide +kernel
theorem dX7_alter_81 : decode cX7_alter 81 = .ok (.ifCond .ne 5, 3) := by decide +kernel
theorem dX7_alter_84 : decode cX7_alter 84 = .ok (.iconst (-1), 1) := by decide +kernel
theorem dX7_alter_85 : decode cX7_alter 85 = .ok (.ireturn, 1) := by decide +kernel
theorem dX7_alter_86 : decode cX7_alter 86 = .ok (.aload_n 0, 1) := by decide +kernel
theorem dX7_alter_87 : decode cX7_alter 87 = .ok (.getfield 10, 3) := by decide +kernel
theorem dX7_alter_90 : decode cX7_alter 90 = .ok (.getfield 99, 3) := by decide +kernel
theorem dX7_alter_93 : decode cX7_alter 93 = .ok (.iload_n 1, 1) := by decide +kernel
theorem dX7_alter_94 : decode cX7_alter 94 = .ok (.iconst 2, 1) := by decide +kernel
theorem dX7_alter_95 : decode cX7_alter 95 = .ok (.invokevirtual 127, 3) := by decide +kernel
theorem dX7_alter_98 : decode cX7_alter 98 = .ok (.istore 5, 2) := by decide +kernel
theorem dX7_alter_100 : decode cX7_alter 100 = .ok (.aload_n 0, 1) := by decide +kernel
theorem dX7_alter_101 : decode cX7_alter 101 = .ok (.getfield 10, 3) := by decide +kernel
theorem dX7_alter_104 : decode cX7_alter 104 = .ok (.getfield 99, 3) := by decide +kernel
theorem dX7_alter_107 : decode cX7_alter 107 = .ok (.iload_n 1, 1) := by decide +kernel
theorem dX7_alter_108 : decode cX7_alter 108 = .ok (.iconst 2, 1) := by decide +kernel
theorem dX7_alter_109 : decode cX7_alter 109 = .ok (.iload_n 2, 1) := by decide +kernel
theorem dX7_alter_110 : decode cX7_alter 110 = .ok (.invokevirtual 246, 3) := by decide +kernel
theorem dX7_alter_113 : decode cX7_alter 113 = .ok (.iload 5, 2) := by decide +kernel
theorem dX7_alter_115 : decode cX7_alter 115 = .ok (.ireturn, 1) := by decide +kernel
set_option maxRecDepth 20000 in
theorem ggX7_keep_X6_takeAll : GoodIn wsX7_keep wsX6_takeAll := goodIn_r _ [8, 9, 10, 11, 12, 13, 14, 15, 16, 17, 7, 18, 19, 20, 21, 22, 23, 24, 25, 26, 27, 28, 29, 30, 42, 43, 44, 45, 46, 47, 48, 49, 50] rfl rfl
set_option maxRecDepth 20000 in
theorem gX7_keep_X6_takeAll : GoodIn wsX7_keep (wsV RX7 249 RX6 yX6_takeAll wsX6_takeAll) := goodIn_app (goodIn_of _ (by decide +kernel)) ggX7_keep_X6_takeAll
theorem dX7_keep_0 : decode cX7_keep 0 = .ok (.iload_n 1, 1) := by decide +kernel
theorem dX7_keep_1 : decode cX7_keep 1 = .ok (.ifCond .lt 8, 3) := by decide +kernel
theorem dX7_keep_4 : decode cX7_keep 4 = .ok (.iload_n 1, 1) := by decide +kernel
theorem dX7_keep_5 : decode cX7_keep 5 = .ok (.iconst 2, 1) := by decide +kernel
theorem dX7_keep_6 : decode cX7_keep 6 = .ok (.if_icmp .lt 5, 3) := by decide +kernel
theorem dX7_keep_9 : decode cX7_keep 9 = .ok (.iconst (-1), 1) := by decide +kernel
theorem dX7_keep_10 : decode cX7_keep 10 = .ok (.ireturn, 1) := by decide +kernel
theorem dX7_keep_11 : decode cX7_keep 11 = .ok (.aload_n 0, 1) := by decide +kernel
theorem dX7_keep_12 : decode cX7_keep 12 = .ok (.getfield 23, 3) := by decide +kernel
theorem dX7_keep_15 : decode cX7_keep 15 = .ok (.iload_n 1, 1) := by decide +kernel
theorem dX7_keep_16 : decode cX7_keep 16 = .ok (.baload, 1) := by decide +kernel
theorem dX7_keep_17 : decode cX7_keep 17 = .ok (.ifCond .eq 7, 3) := by decide +kernel
theorem dX7_keep_20 : decode cX7_keep 20 = .ok (.iconst 1, 1) := by decide +kernel
theorem dX7_keep_21 : decode cX7_keep 21 = .ok (.goto 4, 3) := by decide +kernel
theorem dX7_keep_24 : decode cX7_keep 24 = .ok (.iconst 0, 1) := by decide +kernel
theorem dX7_keep_25 : decode cX7_keep 25 = .ok (.istore_n 2, 1) := by decide +kernel
theorem dX7_keep_26 : decode cX7_keep 26 = .ok (.aload_n 0, 1) := by decide +kernel
theorem dX7_keep_27 : decode cX7_keep 27 = .ok (.getfield 19, 3) := by decide +kernel
theorem dX7_keep_30 : decode cX7_keep 30 = .ok (.iload_n 1, 1) := by decide +kernel
theorem dX7_keep_31 : decode cX7_keep 31 = .ok (.aaload, 1) := by decide +kernel
theorem dX7_keep_32 : decode cX7_keep 32 = .ok (.aload_n 0, 1) := by decide +kernel
theorem dX7_keep_33 : decode cX7_keep 33 = .ok (.getfield 10, 3) := by decide +kernel
theorem dX7_keep_36 : decode cX7_keep 36 = .ok (.invokevirtual 249, 3) := by decide +kernel
theorem dX7_keep_39 : decode cX7_keep 39 = .ok (.aload_n 0, 1) := by decide +kernel
theorem dX7_keep_40 : decode cX7_keep 40 = .ok (.getfield 23, 3) := by decide +kernel
theorem dX7_keep_43 : decode cX7_keep 43 = .ok (.iload_n 1, 1) := by decide +kernel
theorem dX7_keep_44 : decode cX7_keep 44 = .ok (.iconst 1, 1) := by decide +kernel
theorem dX7_keep_45 : decode cX7_keep 45 = .ok (.bastore, 1) := by decide +kernel
theorem dX7_keep_46 : decode cX7_keep 46 = .ok (.iload_n 2, 1) := by decide +kernel
theorem dX7_keep_47 : decode cX7_keep 47 = .ok (.ireturn, 1) := by decide +kernel
set_option maxRecDepth 20000 in
theorem ggX7_back_X6_takeAll : GoodIn wsX7_back wsX6_takeAll := goodIn_r _ [9, 10, 11, 12, 13, 14, 15, 16, 17, 18, 8, 19, 20, 21, 22, 23, 24, 25, 26, 27, 28, 29, 30, 31, 50, 51, 52, 53, 54, 55, 56, 57, 58] rfl rfl
set_option maxRecDepth 20000 in
theorem gX7_back_X6_takeAll : GoodIn wsX7_back (wsV RX7 249 RX6 yX6_takeAll wsX6_takeAll) := goodIn_app (goodIn_of _ (by decide +kernel)) ggX7_back_X6_takeAll
set_option maxRecDepth 20000 in
theorem ggX7_back_X5_forget : GoodIn wsX7_back wsX5_forget := goodIn_r _ [36, 37, 38, 59, 60, 61, 62, 63, 64, 65, 66, 67] rfl rfl
set_option maxRecDepth 20000 in
theorem gX7_back_X5_forget : GoodIn wsX7_back (wsV RX7 84 RX5 yX5_forget wsX5_forget) := goodIn_app (goodIn_of _ (by decide +kernel)) ggX7_back_X5_forget
theorem dX7_back_0 : decode cX7_back 0 = .ok (.iload_n 1, 1) := by decide +kernel
theorem dX7_back_1 : decode cX7_back 1 = .ok (.ifCond .lt 8, 3) := by decide +kernel
theorem dX7_back_4 : decode cX7_back 4 = .ok (.iload_n 1, 1) := by decide +kernel
theorem dX7_back_5 : decode cX7_back 5 = .ok (.iconst 2, 1) := by decide +kernel
theorem dX7_back_6 : decode cX7_back 6 = .ok (.if_icmp .lt 5, 3) := by decide +kernel
theorem dX7_back_9 : decode cX7_back 9 = .ok (.iconst (-1), 1) := by decide +kernel
theorem dX7_back_10 : decode cX7_back 10 = .ok (.ireturn, 1) := by decide +kernel
theorem dX7_back_11 : decode cX7_back 11 = .ok (.aload_n 0, 1) := by decide +kernel
theorem dX7_back_12 : decode cX7_back 12 = .ok (.getfield 23, 3) := by decide +kernel
theorem dX7_back_15 : decode cX7_back 15 = .ok (.iload_n 1, 1) := by decide +kernel
theorem dX7_back_16 : decode cX7_back 16 = .ok (.baload, 1) := by decide +kernel
theorem dX7_back_17 : decode cX7_back 17 = .ok (.ifCond .ne 6, 3) := by decide +kernel
theorem dX7_back_20 : decode cX7_back 20 = .ok (.bipush (-2), 2) := by decide +kernel
theorem dX7_back_22 : decode cX7_back 22 = .ok (.ireturn, 1) := by decide +kernel
theorem dX7_back_23 : decode cX7_back 23 = .ok (.aload_n 0, 1) := by decide +kernel
theorem dX7_back_24 : decode cX7_back 24 = .ok (.getfield 10, 3) := by decide +kernel
theorem dX7_back_27 : decode cX7_back 27 = .ok (.aload_n 0, 1) := by decide +kernel
theorem dX7_back_28 : decode cX7_back 28 = .ok (.getfield 19, 3) := by decide +kernel
theorem dX7_back_31 : decode cX7_back 31 = .ok (.iload_n 1, 1) := by decide +kernel
theorem dX7_back_32 : decode cX7_back 32 = .ok (.aaload, 1) := by decide +kernel
theorem dX7_back_33 : decode cX7_back 33 = .ok (.invokevirtual 249, 3) := by decide +kernel
theorem dX7_back_36 : decode cX7_back 36 = .ok (.aload_n 0, 1) := by decide +kernel
theorem dX7_back_37 : decode cX7_back 37 = .ok (.getfield 44, 3) := by decide +kernel
theorem dX7_back_40 : decode cX7_back 40 = .ok (.invokevirtual 84, 3) := by decide +kernel
theorem dX7_back_43 : decode cX7_back 43 = .ok (.aload_n 0, 1) := by decide +kernel
theorem dX7_back_44 : decode cX7_back 44 = .ok (.getfield 10, 3) := by decide +kernel
theorem dX7_back_47 : decode cX7_back 47 = .ok (.getfield 90, 3) := by decide +kernel
theorem dX7_back_50 : decode cX7_back 50 = .ok (.getfield 94, 3) := by decide +kernel
theorem dX7_back_53 : decode cX7_back 53 = .ok (.ireturn, 1) := by decide +kernel
set_option maxRecDepth 20000 in
theorem ggX7_sheet_X7_isSheet : GoodIn wsX7_sheet wsX7_isSheet := goodIn_r _ [5] rfl rfl
set_option maxRecDepth 20000 in
theorem gX7_sheet_X7_isSheet : GoodIn wsX7_sheet (va_wsS RX7 252 yX7_isSheet wsX7_isSheet) := goodIn_app (goodIn_of _ (by decide +kernel)) ggX7_sheet_X7_isSheet
set_option maxRecDepth 20000 in
theorem ggX7_sheet_X7_isLane : GoodIn wsX7_sheet wsX7_isLane := goodIn_r _ [8] rfl rfl
set_option maxRecDepth 20000 in
theorem gX7_sheet_X7_isLane : GoodIn wsX7_sheet (va_wsS RX7 255 yX7_isLane wsX7_isLane) := goodIn_app (goodIn_of _ (by decide +kernel)) ggX7_sheet_X7_isLane
set_option maxRecDepth 20000 in
theorem ggX7_sheet_X2_becomeNew : GoodIn wsX7_sheet wsX2_becomeNew := goodIn_r _ [13, 14, 15, 16, 17, 18, 19, 20, 21, 33, 34, 35, 36] rfl rfl
set_option maxRecDepth 20000 in
theorem gX7_sheet_X2_becomeNew : GoodIn wsX7_sheet (wsV RX7 258 RX2 yX2_becomeNew wsX2_becomeNew) := goodIn_app (goodIn_of _ (by decide +kernel)) ggX7_sheet_X2_becomeNew
theorem dX7_sheet_0 : decode cX7_sheet 0 = .ok (.iload_n 1, 1) := by decide +kernel
theorem dX7_sheet_1 : decode cX7_sheet 1 = .ok (.invokestatic 252, 3) := by decide +kernel
theorem dX7_sheet_4 : decode cX7_sheet 4 = .ok (.ifCond .eq 16, 3) := by decide +kernel
theorem dX7_sheet_7 : decode cX7_sheet 7 = .ok (.iload_n 2, 1) := by decide +kernel
theorem dX7_sheet_8 : decode cX7_sheet 8 = .ok (.invokestatic 255, 3) := by decide +kernel
theorem dX7_sheet_11 : decode cX7_sheet 11 = .ok (.ifCond .eq 9, 3) := by decide +kernel
theorem dX7_sheet_14 : decode cX7_sheet 14 = .ok (.iload_n 3, 1) := by decide +kernel
theorem dX7_sheet_15 : decode cX7_sheet 15 = .ok (.bipush 40, 2) := by decide +kernel
theorem dX7_sheet_17 : decode cX7_sheet 17 = .ok (.if_icmp .le 5, 3) := by decide +kernel
theorem dX7_sheet_20 : decode cX7_sheet 20 = .ok (.iconst (-1), 1) := by decide +kernel
theorem dX7_sheet_21 : decode cX7_sheet 21 = .ok (.ireturn, 1) := by decide +kernel
theorem dX7_sheet_22 : decode cX7_sheet 22 = .ok (.iload_n 3, 1) := by decide +kernel
theorem dX7_sheet_23 : decode cX7_sheet 23 = .ok (.ifCond .ge 6, 3) := by decide +kernel
theorem dX7_sheet_26 : decode cX7_sheet 26 = .ok (.bipush (-14), 2) := by decide +kernel
theorem dX7_sheet_28 : decode cX7_sheet 28 = .ok (.ireturn, 1) := by decide +kernel
theorem dX7_sheet_29 : decode cX7_sheet 29 = .ok (.aload_n 0, 1) := by decide +kernel
theorem dX7_sheet_30 : decode cX7_sheet 30 = .ok (.getfield 57, 3) := by decide +kernel
theorem dX7_sheet_33 : decode cX7_sheet 33 = .ok (.iload_n 1, 1) := by decide +kernel
theorem dX7_sheet_34 : decode cX7_sheet 34 = .ok (.aaload, 1) := by decide +kernel
theorem dX7_sheet_35 : decode cX7_sheet 35 = .ok (.iload_n 2, 1) := by decide +kernel
theorem dX7_sheet_36 : decode cX7_sheet 36 = .ok (.iload_n 3, 1) := by decide +kernel
theorem dX7_sheet_37 : decode cX7_sheet 37 = .ok (.invokevirtual 258, 3) := by decide +kernel
theorem dX7_sheet_40 : decode cX7_sheet 40 = .ok (.iconst 1, 1) := by decide +kernel
theorem dX7_sheet_41 : decode cX7_sheet 41 = .ok (.ireturn, 1) := by decide +kernel
set_option maxRecDepth 20000 in
theorem ggX7_lay_X7_isSheet : GoodIn wsX7_lay wsX7_isSheet := goodIn_r _ [5] rfl rfl
set_option maxRecDepth 20000 in
theorem gX7_lay_X7_isSheet : GoodIn wsX7_lay (va_wsS RX7 252 yX7_isSheet wsX7_isSheet) := goodIn_app (goodIn_of _ (by decide +kernel)) ggX7_lay_X7_isSheet
set_option maxRecDepth 20000 in
theorem ggX7_lay_X2_refusal : GoodIn wsX7_lay wsX2_refusal := goodIn_r _ [10, 11, 12, 13, 30, 31, 32, 33] rfl rfl
set_option maxRecDepth 20000 in
theorem gX7_lay_X2_refusal : GoodIn wsX7_lay (wsV RX7 265 RX2 yX2_refusal wsX2_refusal) := goodIn_app (goodIn_of _ (by decide +kernel)) ggX7_lay_X2_refusal
set_option maxRecDepth 20000 in
theorem ggX7_lay_X2_become : GoodIn wsX7_lay wsX2_become := goodIn_r _ [17, 13, 12, 18, 30, 31, 32, 33] rfl rfl
set_option maxRecDepth 20000 in
theorem gX7_lay_X2_become : GoodIn wsX7_lay (wsV RX7 268 RX2 yX2_become wsX2_become) := goodIn_app (goodIn_of _ (by decide +kernel)) ggX7_lay_X2_become
theorem dX7_lay_0 : decode cX7_lay 0 = .ok (.iload_n 1, 1) := by decide +kernel
theorem dX7_lay_1 : decode cX7_lay 1 = .ok (.invokestatic 252, 3) := by decide +kernel
theorem dX7_lay_4 : decode cX7_lay 4 = .ok (.ifCond .ne 5, 3) := by decide +kernel
theorem dX7_lay_7 : decode cX7_lay 7 = .ok (.iconst (-1), 1) := by decide +kernel
theorem dX7_lay_8 : decode cX7_lay 8 = .ok (.ireturn, 1) := by decide +kernel
theorem dX7_lay_9 : decode cX7_lay 9 = .ok (.aload_n 0, 1) := by decide +kernel
theorem dX7_lay_10 : decode cX7_lay 10 = .ok (.getfield 57, 3) := by decide +kernel
theorem dX7_lay_13 : decode cX7_lay 13 = .ok (.iload_n 1, 1) := by decide +kernel
theorem dX7_lay_14 : decode cX7_lay 14 = .ok (.aaload, 1) := by decide +kernel
theorem dX7_lay_15 : decode cX7_lay 15 = .ok (.astore 4, 2) := by decide +kernel
theorem dX7_lay_17 : decode cX7_lay 17 = .ok (.aload 4, 2) := by decide +kernel
theorem dX7_lay_19 : decode cX7_lay 19 = .ok (.aload 4, 2) := by decide +kernel
theorem dX7_lay_21 : decode cX7_lay 21 = .ok (.getfield 262, 3) := by decide +kernel
theorem dX7_lay_24 : decode cX7_lay 24 = .ok (.iload_n 2, 1) := by decide +kernel
theorem dX7_lay_25 : decode cX7_lay 25 = .ok (.invokevirtual 265, 3) := by decide +kernel
theorem dX7_lay_28 : decode cX7_lay 28 = .ok (.istore 5, 2) := by decide +kernel
theorem dX7_lay_30 : decode cX7_lay 30 = .ok (.iload 5, 2) := by decide +kernel
theorem dX7_lay_32 : decode cX7_lay 32 = .ok (.ifCond .eq 9, 3) := by decide +kernel
theorem dX7_lay_35 : decode cX7_lay 35 = .ok (.bipush (-10), 2) := by decide +kernel
theorem dX7_lay_37 : decode cX7_lay 37 = .ok (.iload 5, 2) := by decide +kernel
theorem dX7_lay_39 : decode cX7_lay 39 = .ok (.isub, 1) := by decide +kernel
theorem dX7_lay_40 : decode cX7_lay 40 = .ok (.ireturn, 1) := by decide +kernel
theorem dX7_lay_41 : decode cX7_lay 41 = .ok (.aload 4, 2) := by decide +kernel
theorem dX7_lay_43 : decode cX7_lay 43 = .ok (.iload_n 2, 1) := by decide +kernel
theorem dX7_lay_44 : decode cX7_lay 44 = .ok (.iload_n 3, 1) := by decide +kernel
theorem dX7_lay_45 : decode cX7_lay 45 = .ok (.invokevirtual 268, 3) := by decide +kernel
theorem dX7_lay_48 : decode cX7_lay 48 = .ok (.iconst 1, 1) := by decide +kernel
theorem dX7_lay_49 : decode cX7_lay 49 = .ok (.ireturn, 1) := by decide +kernel
set_option maxRecDepth 20000 in
theorem ggX7_read_X7_isSheet : GoodIn wsX7_read wsX7_isSheet := goodIn_r _ [8] rfl rfl
set_option maxRecDepth 20000 in
theorem gX7_read_X7_isSheet : GoodIn wsX7_read (va_wsS RX7 252 yX7_isSheet wsX7_isSheet) := goodIn_app (goodIn_of _ (by decide +kernel)) ggX7_read_X7_isSheet
set_option maxRecDepth 20000 in
theorem ggX7_read_X7_isLane : GoodIn wsX7_read wsX7_isLane := goodIn_r _ [11] rfl rfl
set_option maxRecDepth 20000 in
theorem gX7_read_X7_isLane : GoodIn wsX7_read (va_wsS RX7 255 yX7_isLane wsX7_isLane) := goodIn_app (goodIn_of _ (by decide +kernel)) ggX7_read_X7_isLane
set_option maxRecDepth 20000 in
theorem ggX7_read_X2_refusal : GoodIn wsX7_read wsX2_refusal := goodIn_r _ [16, 17, 18, 19, 37, 38, 39, 40] rfl rfl
set_option maxRecDepth 20000 in
theorem gX7_read_X2_refusal : GoodIn wsX7_read (wsV RX7 265 RX2 yX2_refusal wsX2_refusal) := goodIn_app (goodIn_of _ (by decide +kernel)) ggX7_read_X2_refusal
set_option maxRecDepth 20000 in
theorem ggX7_read_X7_isWord : GoodIn wsX7_read wsX7_isWord := goodIn_r _ [22] rfl rfl
set_option maxRecDepth 20000 in
theorem gX7_read_X7_isWord : GoodIn wsX7_read (va_wsS RX7 172 yX7_isWord wsX7_isWord) := goodIn_app (goodIn_of _ (by decide +kernel)) ggX7_read_X7_isWord
set_option maxRecDepth 20000 in
theorem ggX7_read_X7_isNumber : GoodIn wsX7_read wsX7_isNumber := goodIn_r _ [25] rfl rfl
set_option maxRecDepth 20000 in
theorem gX7_read_X7_isNumber : GoodIn wsX7_read (va_wsS RX7 166 yX7_isNumber wsX7_isNumber) := goodIn_app (goodIn_of _ (by decide +kernel)) ggX7_read_X7_isNumber
theorem dX7_read_0 : decode cX7_read 0 = .ok (.iload_n 1, 1) := by decide +kernel
theorem dX7_read_1 : decode cX7_read 1 = .ok (.invokestatic 252, 3) := by decide +kernel
theorem dX7_read_4 : decode cX7_read 4 = .ok (.ifCond .eq 22, 3) := by decide +kernel
theorem dX7_read_7 : decode cX7_read 7 = .ok (.iload_n 2, 1) := by decide +kernel
theorem dX7_read_8 : decode cX7_read 8 = .ok (.invokestatic 255, 3) := by decide +kernel
theorem dX7_read_11 : decode cX7_read 11 = .ok (.ifCond .eq 15, 3) := by decide +kernel
theorem dX7_read_14 : decode cX7_read 14 = .ok (.iload 4, 2) := by decide +kernel
theorem dX7_read_16 : decode cX7_read 16 = .ok (.ifCond .lt 10, 3) := by decide +kernel
theorem dX7_read_19 : decode cX7_read 19 = .ok (.iload 4, 2) := by decide +kernel
theorem dX7_read_21 : decode cX7_read 21 = .ok (.bipush 40, 2) := by decide +kernel
theorem dX7_read_23 : decode cX7_read 23 = .ok (.if_icmp .le 5, 3) := by decide +kernel
theorem dX7_read_26 : decode cX7_read 26 = .ok (.iconst (-1), 1) := by decide +kernel
theorem dX7_read_27 : decode cX7_read 27 = .ok (.ireturn, 1) := by decide +kernel
theorem dX7_read_28 : decode cX7_read 28 = .ok (.aload_n 0, 1) := by decide +kernel
theorem dX7_read_29 : decode cX7_read 29 = .ok (.getfield 57, 3) := by decide +kernel
theorem dX7_read_32 : decode cX7_read 32 = .ok (.iload_n 1, 1) := by decide +kernel
theorem dX7_read_33 : decode cX7_read 33 = .ok (.aaload, 1) := by decide +kernel
theorem dX7_read_34 : decode cX7_read 34 = .ok (.astore 6, 2) := by decide +kernel
theorem dX7_read_36 : decode cX7_read 36 = .ok (.iconst 0, 1) := by decide +kernel
theorem dX7_read_37 : decode cX7_read 37 = .ok (.istore 7, 2) := by decide +kernel
theorem dX7_read_39 : decode cX7_read 39 = .ok (.iconst 0, 1) := by decide +kernel
theorem dX7_read_40 : decode cX7_read 40 = .ok (.istore 8, 2) := by decide +kernel
theorem dX7_read_42 : decode cX7_read 42 = .ok (.iconst 0, 1) := by decide +kernel
theorem dX7_read_43 : decode cX7_read 43 = .ok (.istore 9, 2) := by decide +kernel
theorem dX7_read_45 : decode cX7_read 45 = .ok (.iload 9, 2) := by decide +kernel
theorem dX7_read_47 : decode cX7_read 47 = .ok (.iload 4, 2) := by decide +kernel
theorem dX7_read_49 : decode cX7_read 49 = .ok (.if_icmp .ge 78, 3) := by decide +kernel
theorem dX7_read_52 : decode cX7_read 52 = .ok (.aload 6, 2) := by decide +kernel
theorem dX7_read_54 : decode cX7_read 54 = .ok (.iload_n 2, 1) := by decide +kernel
theorem dX7_read_55 : decode cX7_read 55 = .ok (.iload_n 3, 1) := by decide +kernel
theorem dX7_read_56 : decode cX7_read 56 = .ok (.iload 9, 2) := by decide +kernel
theorem dX7_read_58 : decode cX7_read 58 = .ok (.iadd, 1) := by decide +kernel
theorem dX7_read_59 : decode cX7_read 59 = .ok (.invokevirtual 265, 3) := by decide +kernel
theorem dX7_read_62 : decode cX7_read 62 = .ok (.istore 7, 2) := by decide +kernel
theorem dX7_read_64 : decode cX7_read 64 = .ok (.iload 7, 2) := by decide +kernel
theorem dX7_read_66 : decode cX7_read 66 = .ok (.ifCond .eq 6, 3) := by decide +kernel
theorem dX7_read_69 : decode cX7_read 69 = .ok (.goto 58, 3) := by decide +kernel
theorem dX7_read_72 : decode cX7_read 72 = .ok (.aload 6, 2) := by decide +kernel
theorem dX7_read_74 : decode cX7_read 74 = .ok (.getfield 271, 3) := by decide +kernel
theorem dX7_read_77 : decode cX7_read 77 = .ok (.iload_n 3, 1) := by decide +kernel
theorem dX7_read_78 : decode cX7_read 78 = .ok (.iload 9, 2) := by decide +kernel
theorem dX7_read_80 : decode cX7_read 80 = .ok (.iadd, 1) := by decide +kernel
theorem dX7_read_81 : decode cX7_read 81 = .ok (.iaload, 1) := by decide +kernel
theorem dX7_read_82 : decode cX7_read 82 = .ok (.istore 10, 2) := by decide +kernel
theorem dX7_read_84 : decode cX7_read 84 = .ok (.iload 5, 2) := by decide +kernel
theorem dX7_read_86 : decode cX7_read 86 = .ok (.iload 9, 2) := by decide +kernel
theorem dX7_read_88 : decode cX7_read 88 = .ok (.iadd, 1) := by decide +kernel
theorem dX7_read_89 : decode cX7_read 89 = .ok (.invokestatic 172, 3) := by decide +kernel
theorem dX7_read_92 : decode cX7_read 92 = .ok (.ifCond .eq 11, 3) := by decide +kernel
theorem dX7_read_95 : decode cX7_read 95 = .ok (.iload 10, 2) := by decide +kernel
theorem dX7_read_97 : decode cX7_read 97 = .ok (.invokestatic 166, 3) := by decide +kernel
theorem dX7_read_100 : decode cX7_read 100 = .ok (.ifCond .ne 9, 3) := by decide +kernel
theorem dX7_read_103 : decode cX7_read 103 = .ok (.bipush (-20), 2) := by decide +kernel
theorem dX7_read_105 : decode cX7_read 105 = .ok (.iload 9, 2) := by decide +kernel
theorem dX7_read_107 : decode cX7_read 107 = .ok (.isub, 1) := by decide +kernel
theorem dX7_read_108 : decode cX7_read 108 = .ok (.ireturn, 1) := by decide +kernel
theorem dX7_read_109 : decode cX7_read 109 = .ok (.aload_n 0, 1) := by decide +kernel
theorem dX7_read_110 : decode cX7_read 110 = .ok (.getfield 61, 3) := by decide +kernel
theorem dX7_read_113 : decode cX7_read 113 = .ok (.iload 9, 2) := by decide +kernel
theorem dX7_read_115 : decode cX7_read 115 = .ok (.iload 10, 2) := by decide +kernel
theorem dX7_read_117 : decode cX7_read 117 = .ok (.iastore, 1) := by decide +kernel
theorem dX7_read_118 : decode cX7_read 118 = .ok (.iinc 8 1, 3) := by decide +kernel
theorem dX7_read_121 : decode cX7_read 121 = .ok (.iinc 9 1, 3) := by decide +kernel
theorem dX7_read_124 : decode cX7_read 124 = .ok (.goto (-79), 3) := by decide +kernel
theorem dX7_read_127 : decode cX7_read 127 = .ok (.iconst 0, 1) := by decide +kernel
theorem dX7_read_128 : decode cX7_read 128 = .ok (.istore 9, 2) := by decide +kernel
theorem dX7_read_130 : decode cX7_read 130 = .ok (.iload 9, 2) := by decide +kernel
theorem dX7_read_132 : decode cX7_read 132 = .ok (.iload 8, 2) := by decide +kernel
theorem dX7_read_134 : decode cX7_read 134 = .ok (.if_icmp .ge 29, 3) := by decide +kernel
theorem dX7_read_137 : decode cX7_read 137 = .ok (.aload_n 0, 1) := by decide +kernel
theorem dX7_read_138 : decode cX7_read 138 = .ok (.getfield 10, 3) := by decide +kernel
theorem dX7_read_141 : decode cX7_read 141 = .ok (.getfield 175, 3) := by decide +kernel
theorem dX7_read_144 : decode cX7_read 144 = .ok (.iload 5, 2) := by decide +kernel
theorem dX7_read_146 : decode cX7_read 146 = .ok (.iload 9, 2) := by decide +kernel
theorem dX7_read_148 : decode cX7_read 148 = .ok (.iadd, 1) := by decide +kernel
theorem dX7_read_149 : decode cX7_read 149 = .ok (.aload_n 0, 1) := by decide +kernel
theorem dX7_read_150 : decode cX7_read 150 = .ok (.getfield 61, 3) := by decide +kernel
theorem dX7_read_153 : decode cX7_read 153 = .ok (.iload 9, 2) := by decide +kernel
theorem dX7_read_155 : decode cX7_read 155 = .ok (.iaload, 1) := by decide +kernel
theorem dX7_read_156 : decode cX7_read 156 = .ok (.iastore, 1) := by decide +kernel
theorem dX7_read_157 : decode cX7_read 157 = .ok (.iinc 9 1, 3) := by decide +kernel
theorem dX7_read_160 : decode cX7_read 160 = .ok (.goto (-30), 3) := by decide +kernel
theorem dX7_read_163 : decode cX7_read 163 = .ok (.aload_n 0, 1) := by decide +kernel
theorem dX7_read_164 : decode cX7_read 164 = .ok (.iload 7, 2) := by decide +kernel
theorem dX7_read_166 : decode cX7_read 166 = .ok (.putfield 65, 3) := by decide +kernel
theorem dX7_read_169 : decode cX7_read 169 = .ok (.iload 8, 2) := by decide +kernel
theorem dX7_read_171 : decode cX7_read 171 = .ok (.ireturn, 1) := by decide +kernel
theorem dX7_torn_0 : decode cX7_torn 0 = .ok (.aload_n 0, 1) := by decide +kernel
theorem dX7_torn_1 : decode cX7_torn 1 = .ok (.getfield 65, 3) := by decide +kernel
theorem dX7_torn_4 : decode cX7_torn 4 = .ok (.ireturn, 1) := by decide +kernel
set_option maxRecDepth 20000 in
theorem ggX7_count_X7_sumOf : GoodIn wsX7_count wsX7_sumOf := goodIn_r _ [8] rfl rfl
set_option maxRecDepth 20000 in
theorem gX7_count_X7_sumOf : GoodIn wsX7_count (va_wsS RX7 278 yX7_sumOf wsX7_sumOf) := goodIn_app (goodIn_of _ (by decide +kernel)) ggX7_count_X7_sumOf
theorem dX7_count_0 : decode cX7_count 0 = .ok (.iload_n 1, 1) := by decide +kernel
theorem dX7_count_1 : decode cX7_count 1 = .ok (.tableswitch 122 0 4 #[35, 65, 73, 100, 111], 35) := by decide +kernel
theorem dX7_count_36 : decode cX7_count 36 = .ok (.aload_n 0, 1) := by decide +kernel
theorem dX7_count_37 : decode cX7_count 37 = .ok (.getfield 23, 3) := by decide +kernel
theorem dX7_count_40 : decode cX7_count 40 = .ok (.iconst 0, 1) := by decide +kernel
theorem dX7_count_41 : decode cX7_count 41 = .ok (.baload, 1) := by decide +kernel
theorem dX7_count_42 : decode cX7_count 42 = .ok (.ifCond .eq 7, 3) := by decide +kernel
theorem dX7_count_45 : decode cX7_count 45 = .ok (.iconst 1, 1) := by decide +kernel
theorem dX7_count_46 : decode cX7_count 46 = .ok (.goto 4, 3) := by decide +kernel
theorem dX7_count_49 : decode cX7_count 49 = .ok (.iconst 0, 1) := by decide +kernel
theorem dX7_count_50 : decode cX7_count 50 = .ok (.aload_n 0, 1) := by decide +kernel
theorem dX7_count_51 : decode cX7_count 51 = .ok (.getfield 23, 3) := by decide +kernel
theorem dX7_count_54 : decode cX7_count 54 = .ok (.iconst 1, 1) := by decide +kernel
theorem dX7_count_55 : decode cX7_count 55 = .ok (.baload, 1) := by decide +kernel
theorem dX7_count_56 : decode cX7_count 56 = .ok (.ifCond .eq 7, 3) := by decide +kernel
theorem dX7_count_59 : decode cX7_count 59 = .ok (.iconst 1, 1) := by decide +kernel
theorem dX7_count_60 : decode cX7_count 60 = .ok (.goto 4, 3) := by decide +kernel
theorem dX7_count_63 : decode cX7_count 63 = .ok (.iconst 0, 1) := by decide +kernel
theorem dX7_count_64 : decode cX7_count 64 = .ok (.iadd, 1) := by decide +kernel
theorem dX7_count_65 : decode cX7_count 65 = .ok (.ireturn, 1) := by decide +kernel
theorem dX7_count_66 : decode cX7_count 66 = .ok (.aload_n 0, 1) := by decide +kernel
theorem dX7_count_67 : decode cX7_count 67 = .ok (.getfield 30, 3) := by decide +kernel
theorem dX7_count_70 : decode cX7_count 70 = .ok (.getfield 70, 3) := by decide +kernel
theorem dX7_count_73 : decode cX7_count 73 = .ok (.ireturn, 1) := by decide +kernel
theorem dX7_count_74 : decode cX7_count 74 = .ok (.aload_n 0, 1) := by decide +kernel
theorem dX7_count_75 : decode cX7_count 75 = .ok (.getfield 57, 3) := by decide +kernel
theorem dX7_count_78 : decode cX7_count 78 = .ok (.iconst 0, 1) := by decide +kernel
theorem dX7_count_79 : decode cX7_count 79 = .ok (.aaload, 1) := by decide +kernel
theorem dX7_count_80 : decode cX7_count 80 = .ok (.getfield 274, 3) := by decide +kernel
theorem dX7_count_83 : decode cX7_count 83 = .ok (.ifCond .eq 15, 3) := by decide +kernel
theorem dX7_count_86 : decode cX7_count 86 = .ok (.aload_n 0, 1) := by decide +kernel
theorem dX7_count_87 : decode cX7_count 87 = .ok (.getfield 57, 3) := by decide +kernel
theorem dX7_count_90 : decode cX7_count 90 = .ok (.iconst 0, 1) := by decide +kernel
theorem dX7_count_91 : decode cX7_count 91 = .ok (.aaload, 1) := by decide +kernel
theorem dX7_count_92 : decode cX7_count 92 = .ok (.getfield 277, 3) := by decide +kernel
theorem dX7_count_95 : decode cX7_count 95 = .ok (.goto 5, 3) := by decide +kernel
theorem dX7_count_98 : decode cX7_count 98 = .ok (.bipush (-4), 2) := by decide +kernel
theorem dX7_count_100 : decode cX7_count 100 = .ok (.ireturn, 1) := by decide +kernel
theorem dX7_count_101 : decode cX7_count 101 = .ok (.aload_n 0, 1) := by decide +kernel
theorem dX7_count_102 : decode cX7_count 102 = .ok (.getfield 10, 3) := by decide +kernel
theorem dX7_count_105 : decode cX7_count 105 = .ok (.getfield 169, 3) := by decide +kernel
theorem dX7_count_108 : decode cX7_count 108 = .ok (.invokestatic 278, 3) := by decide +kernel
theorem dX7_count_111 : decode cX7_count 111 = .ok (.ireturn, 1) := by decide +kernel
theorem dX7_count_112 : decode cX7_count 112 = .ok (.aload_n 0, 1) := by decide +kernel
theorem dX7_count_113 : decode cX7_count 113 = .ok (.getfield 10, 3) := by decide +kernel
theorem dX7_count_116 : decode cX7_count 116 = .ok (.getfield 175, 3) := by decide +kernel
theorem dX7_count_119 : decode cX7_count 119 = .ok (.invokestatic 278, 3) := by decide +kernel
theorem dX7_count_122 : decode cX7_count 122 = .ok (.ireturn, 1) := by decide +kernel
theorem dX7_count_123 : decode cX7_count 123 = .ok (.iconst (-1), 1) := by decide +kernel
theorem dX7_count_124 : decode cX7_count 124 = .ok (.ireturn, 1) := by decide +kernel
theorem dX7_isRegister_0 : decode cX7_isRegister 0 = .ok (.iload_n 0, 1) := by decide +kernel
theorem dX7_isRegister_1 : decode cX7_isRegister 1 = .ok (.ifCond .lt 13, 3) := by decide +kernel
theorem dX7_isRegister_4 : decode cX7_isRegister 4 = .ok (.iload_n 0, 1) := by decide +kernel
theorem dX7_isRegister_5 : decode cX7_isRegister 5 = .ok (.bipush 6, 2) := by decide +kernel
theorem dX7_isRegister_7 : decode cX7_isRegister 7 = .ok (.if_icmp .ge 7, 3) := by decide +kernel
theorem dX7_isRegister_10 : decode cX7_isRegister 10 = .ok (.iconst 1, 1) := by decide +kernel
theorem dX7_isRegister_11 : decode cX7_isRegister 11 = .ok (.goto 4, 3) := by decide +kernel
theorem dX7_isRegister_14 : decode cX7_isRegister 14 = .ok (.iconst 0, 1) := by decide +kernel
theorem dX7_isRegister_15 : decode cX7_isRegister 15 = .ok (.ireturn, 1) := by decide +kernel
theorem dX7_isWord_0 : decode cX7_isWord 0 = .ok (.iload_n 0, 1) := by decide +kernel
theorem dX7_isWord_1 : decode cX7_isWord 1 = .ok (.ifCond .lt 13, 3) := by decide +kernel
theorem dX7_isWord_4 : decode cX7_isWord 4 = .ok (.iload_n 0, 1) := by decide +kernel
theorem dX7_isWord_5 : decode cX7_isWord 5 = .ok (.bipush 48, 2) := by decide +kernel
theorem dX7_isWord_7 : decode cX7_isWord 7 = .ok (.if_icmp .ge 7, 3) := by decide +kernel
theorem dX7_isWord_10 : decode cX7_isWord 10 = .ok (.iconst 1, 1) := by decide +kernel
theorem dX7_isWord_11 : decode cX7_isWord 11 = .ok (.goto 4, 3) := by decide +kernel
theorem dX7_isWord_14 : decode cX7_isWord 14 = .ok (.iconst 0, 1) := by decide +kernel
theorem dX7_isWord_15 : decode cX7_isWord 15 = .ok (.ireturn, 1) := by decide +kernel
theorem dX7_isNumber_0 : decode cX7_isNumber 0 = .ok (.iload_n 0, 1) := by decide +kernel
theorem dX7_isNumber_1 : decode cX7_isNumber 1 = .ok (.ifCond .lt 14, 3) := by decide +kernel
theorem dX7_isNumber_4 : decode cX7_isNumber 4 = .ok (.iload_n 0, 1) := by decide +kernel
theorem dX7_isNumber_5 : decode cX7_isNumber 5 = .ok (.sipush 9999, 3) := by decide +kernel
theorem dX7_isNumber_8 : decode cX7_isNumber 8 = .ok (.if_icmp .gt 7, 3) := by decide +kernel
theorem dX7_isNumber_11 : decode cX7_isNumber 11 = .ok (.iconst 1, 1) := by decide +kernel
theorem dX7_isNumber_12 : decode cX7_isNumber 12 = .ok (.goto 4, 3) := by decide +kernel
theorem dX7_isNumber_15 : decode cX7_isNumber 15 = .ok (.iconst 0, 1) := by decide +kernel
theorem dX7_isNumber_16 : decode cX7_isNumber 16 = .ok (.ireturn, 1) := by decide +kernel
theorem dX7_isSheet_0 : decode cX7_isSheet 0 = .ok (.iload_n 0, 1) := by decide +kernel
theorem dX7_isSheet_1 : decode cX7_isSheet 1 = .ok (.ifCond .lt 12, 3) := by decide +kernel
theorem dX7_isSheet_4 : decode cX7_isSheet 4 = .ok (.iload_n 0, 1) := by decide +kernel
theorem dX7_isSheet_5 : decode cX7_isSheet 5 = .ok (.iconst 4, 1) := by decide +kernel
theorem dX7_isSheet_6 : decode cX7_isSheet 6 = .ok (.if_icmp .ge 7, 3) := by decide +kernel
theorem dX7_isSheet_9 : decode cX7_isSheet 9 = .ok (.iconst 1, 1) := by decide +kernel
theorem dX7_isSheet_10 : decode cX7_isSheet 10 = .ok (.goto 4, 3) := by decide +kernel
theorem dX7_isSheet_13 : decode cX7_isSheet 13 = .ok (.iconst 0, 1) := by decide +kernel
theorem dX7_isSheet_14 : decode cX7_isSheet 14 = .ok (.ireturn, 1) := by decide +kernel
theorem dX7_isLane_0 : decode cX7_isLane 0 = .ok (.iload_n 0, 1) := by decide +kernel
theorem dX7_isLane_1 : decode cX7_isLane 1 = .ok (.ifCond .lt 12, 3) := by decide +kernel
theorem dX7_isLane_4 : decode cX7_isLane 4 = .ok (.iload_n 0, 1) := by decide +kernel
theorem dX7_isLane_5 : decode cX7_isLane 5 = .ok (.iconst 3, 1) := by decide +kernel
theorem dX7_isLane_6 : decode cX7_isLane 6 = .ok (.if_icmp .ge 7, 3) := by decide +kernel
theorem dX7_isLane_9 : decode cX7_isLane 9 = .ok (.iconst 1, 1) := by decide +kernel
theorem dX7_isLane_10 : decode cX7_isLane 10 = .ok (.goto 4, 3) := by decide +kernel
theorem dX7_isLane_13 : decode cX7_isLane 13 = .ok (.iconst 0, 1) := by decide +kernel
theorem dX7_isLane_14 : decode cX7_isLane 14 = .ok (.ireturn, 1) := by decide +kernel
theorem dX7_isThrown_0 : decode cX7_isThrown 0 = .ok (.iload_n 0, 1) := by decide +kernel
theorem dX7_isThrown_1 : decode cX7_isThrown 1 = .ok (.ifCond .le 13, 3) := by decide +kernel
theorem dX7_isThrown_4 : decode cX7_isThrown 4 = .ok (.iload_n 0, 1) := by decide +kernel
theorem dX7_isThrown_5 : decode cX7_isThrown 5 = .ok (.bipush 9, 2) := by decide +kernel
theorem dX7_isThrown_7 : decode cX7_isThrown 7 = .ok (.if_icmp .gt 7, 3) := by decide +kernel
theorem dX7_isThrown_10 : decode cX7_isThrown 10 = .ok (.iconst 1, 1) := by decide +kernel
theorem dX7_isThrown_11 : decode cX7_isThrown 11 = .ok (.goto 4, 3) := by decide +kernel
theorem dX7_isThrown_14 : decode cX7_isThrown 14 = .ok (.iconst 0, 1) := by decide +kernel
theorem dX7_isThrown_15 : decode cX7_isThrown 15 = .ok (.ireturn, 1) := by decide +kernel
theorem dX7_isGuessable_0 : decode cX7_isGuessable 0 = .ok (.iload_n 0, 1) := by decide +kernel
theorem dX7_isGuessable_1 : decode cX7_isGuessable 1 = .ok (.iconst 1, 1) := by decide +kernel
theorem dX7_isGuessable_2 : decode cX7_isGuessable 2 = .ok (.if_icmp .eq 13, 3) := by decide +kernel
theorem dX7_isGuessable_5 : decode cX7_isGuessable 5 = .ok (.iload_n 0, 1) := by decide +kernel
theorem dX7_isGuessable_6 : decode cX7_isGuessable 6 = .ok (.iconst 2, 1) := by decide +kernel
theorem dX7_isGuessable_7 : decode cX7_isGuessable 7 = .ok (.if_icmp .eq 8, 3) := by decide +kernel
theorem dX7_isGuessable_10 : decode cX7_isGuessable 10 = .ok (.iload_n 0, 1) := by decide +kernel
theorem dX7_isGuessable_11 : decode cX7_isGuessable 11 = .ok (.iconst 3, 1) := by decide +kernel
theorem dX7_isGuessable_12 : decode cX7_isGuessable 12 = .ok (.if_icmp .ne 7, 3) := by decide +kernel
theorem dX7_isGuessable_15 : decode cX7_isGuessable 15 = .ok (.iconst 1, 1) := by decide +kernel
theorem dX7_isGuessable_16 : decode cX7_isGuessable 16 = .ok (.goto 4, 3) := by decide +kernel
theorem dX7_isGuessable_19 : decode cX7_isGuessable 19 = .ok (.iconst 0, 1) := by decide +kernel
theorem dX7_isGuessable_20 : decode cX7_isGuessable 20 = .ok (.ireturn, 1) := by decide +kernel
theorem dX7_sumOf_0 : decode cX7_sumOf 0 = .ok (.iconst 0, 1) := by decide +kernel
theorem dX7_sumOf_1 : decode cX7_sumOf 1 = .ok (.istore_n 1, 1) := by decide +kernel
theorem dX7_sumOf_2 : decode cX7_sumOf 2 = .ok (.aload_n 0, 1) := by decide +kernel
theorem dX7_sumOf_3 : decode cX7_sumOf 3 = .ok (.astore_n 2, 1) := by decide +kernel
theorem dX7_sumOf_4 : decode cX7_sumOf 4 = .ok (.aload_n 2, 1) := by decide +kernel
theorem dX7_sumOf_5 : decode cX7_sumOf 5 = .ok (.arraylength, 1) := by decide +kernel
theorem dX7_sumOf_6 : decode cX7_sumOf 6 = .ok (.istore_n 3, 1) := by decide +kernel
theorem dX7_sumOf_7 : decode cX7_sumOf 7 = .ok (.iconst 0, 1) := by decide +kernel
theorem dX7_sumOf_8 : decode cX7_sumOf 8 = .ok (.istore 4, 2) := by decide +kernel
theorem dX7_sumOf_10 : decode cX7_sumOf 10 = .ok (.iload 4, 2) := by decide +kernel
theorem dX7_sumOf_12 : decode cX7_sumOf 12 = .ok (.iload_n 3, 1) := by decide +kernel
theorem dX7_sumOf_13 : decode cX7_sumOf 13 = .ok (.if_icmp .ge 20, 3) := by decide +kernel
theorem dX7_sumOf_16 : decode cX7_sumOf 16 = .ok (.aload_n 2, 1) := by decide +kernel
theorem dX7_sumOf_17 : decode cX7_sumOf 17 = .ok (.iload 4, 2) := by decide +kernel
theorem dX7_sumOf_19 : decode cX7_sumOf 19 = .ok (.iaload, 1) := by decide +kernel
theorem dX7_sumOf_20 : decode cX7_sumOf 20 = .ok (.istore 5, 2) := by decide +kernel
theorem dX7_sumOf_22 : decode cX7_sumOf 22 = .ok (.iload_n 1, 1) := by decide +kernel
theorem dX7_sumOf_23 : decode cX7_sumOf 23 = .ok (.iload 5, 2) := by decide +kernel
theorem dX7_sumOf_25 : decode cX7_sumOf 25 = .ok (.iadd, 1) := by decide +kernel
theorem dX7_sumOf_26 : decode cX7_sumOf 26 = .ok (.istore_n 1, 1) := by decide +kernel
theorem dX7_sumOf_27 : decode cX7_sumOf 27 = .ok (.iinc 4 1, 3) := by decide +kernel
theorem dX7_sumOf_30 : decode cX7_sumOf 30 = .ok (.goto (-20), 3) := by decide +kernel
theorem dX7_sumOf_33 : decode cX7_sumOf 33 = .ok (.iload_n 1, 1) := by decide +kernel
theorem dX7_sumOf_34 : decode cX7_sumOf 34 = .ok (.ireturn, 1) := by decide +kernel
set_option maxRecDepth 20000 in
theorem ggX7_endAt_X5_register : GoodIn wsX7_endAt wsX5_register := goodIn_r _ [8, 9, 10, 11, 12, 7, 13, 14, 15, 16, 17, 97, 98, 99, 100, 101, 102, 103, 104, 105] rfl rfl
set_option maxRecDepth 20000 in
theorem gX7_endAt_X5_register : GoodIn wsX7_endAt (wsV RX7 207 RX5 yX5_register wsX5_register) := goodIn_app (goodIn_of _ (by decide +kernel)) ggX7_endAt_X5_register
set_option maxRecDepth 20000 in
theorem ggX7_endAt_X1_goTo : GoodIn wsX7_endAt wsX1_goTo := goodIn_r _ [22, 23, 24, 25, 26, 21, 27, 28, 29, 30, 31, 32, 33, 34, 35, 36, 15, 16, 17, 37, 38, 39, 40, 41, 42, 43, 44, 45, 46, 47, 48, 49, 50, 51, 52, 53, 54, 55, 56, 57, 58, 59, 60, 61, 106, 107, 108, 109, 110, 111, 112, 113, 114, 115, 116, 117] rfl rfl
set_option maxRecDepth 20000 in
theorem gX7_endAt_X1_goTo : GoodIn wsX7_endAt (wsV RX7 144 RX1 yX1_goTo wsX1_goTo) := goodIn_app (goodIn_of _ (by decide +kernel)) ggX7_endAt_X1_goTo
set_option maxRecDepth 20000 in
theorem ggX7_endAt_X5_topOf : GoodIn wsX7_endAt wsX5_topOf := goodIn_r _ [65, 66, 67, 68, 21, 69, 28, 70, 5, 6, 7, 8, 9, 10, 11, 12, 13, 14, 15, 16, 17, 71, 72, 73, 74, 106, 107, 108, 97, 98, 99, 100, 101, 102, 103, 104, 105] rfl rfl
set_option maxRecDepth 20000 in
theorem gX7_endAt_X5_topOf : GoodIn wsX7_endAt (wsV RX7 282 RX5 yX5_topOf wsX5_topOf) := goodIn_app (goodIn_of _ (by decide +kernel)) ggX7_endAt_X5_topOf
set_option maxRecDepth 20000 in
theorem ggX7_endAt_X1_which : GoodIn wsX7_endAt wsX1_which := goodIn_r _ [78, 28, 15, 16, 17, 106, 107, 108] rfl rfl
set_option maxRecDepth 20000 in
theorem gX7_endAt_X1_which : GoodIn wsX7_endAt (wsV RX7 160 RX1 yX1_which wsX1_which) := goodIn_app (goodIn_of _ (by decide +kernel)) ggX7_endAt_X1_which
set_option maxRecDepth 20000 in
theorem ggX7_endAt_X1_number : GoodIn wsX7_endAt wsX1_number := goodIn_r _ [82, 28, 15, 16, 17, 106, 107, 108] rfl rfl
set_option maxRecDepth 20000 in
theorem gX7_endAt_X1_number : GoodIn wsX7_endAt (wsV RX7 163 RX1 yX1_number wsX1_number) := goodIn_app (goodIn_of _ (by decide +kernel)) ggX7_endAt_X1_number
set_option maxRecDepth 20000 in
theorem ggX7_endAt_X7_isWord : GoodIn wsX7_endAt wsX7_isWord := goodIn_r _ [85] rfl rfl
set_option maxRecDepth 20000 in
theorem gX7_endAt_X7_isWord : GoodIn wsX7_endAt (va_wsS RX7 172 yX7_isWord wsX7_isWord) := goodIn_app (goodIn_of _ (by decide +kernel)) ggX7_endAt_X7_isWord
theorem dX7_endAt_0 : decode cX7_endAt 0 = .ok (.aload_n 0, 1) := by decide +kernel
theorem dX7_endAt_1 : decode cX7_endAt 1 = .ok (.getfield 44, 3) := by decide +kernel
theorem dX7_endAt_4 : decode cX7_endAt 4 = .ok (.iload_n 1, 1) := by decide +kernel
theorem dX7_endAt_5 : decode cX7_endAt 5 = .ok (.iconst 5, 1) := by decide +kernel
theorem dX7_endAt_6 : decode cX7_endAt 6 = .ok (.invokevirtual 207, 3) := by decide +kernel
theorem dX7_endAt_9 : decode cX7_endAt 9 = .ok (.ifCond .ne 5, 3) := by decide +kernel
theorem dX7_endAt_12 : decode cX7_endAt 12 = .ok (.iconst 0, 1) := by decide +kernel
theorem dX7_endAt_13 : decode cX7_endAt 13 = .ok (.ireturn, 1) := by decide +kernel
theorem dX7_endAt_14 : decode cX7_endAt 14 = .ok (.aload_n 0, 1) := by decide +kernel
theorem dX7_endAt_15 : decode cX7_endAt 15 = .ok (.getfield 44, 3) := by decide +kernel
theorem dX7_endAt_18 : decode cX7_endAt 18 = .ok (.getfield 210, 3) := by decide +kernel
theorem dX7_endAt_21 : decode cX7_endAt 21 = .ok (.iload_n 1, 1) := by decide +kernel
theorem dX7_endAt_22 : decode cX7_endAt 22 = .ok (.iaload, 1) := by decide +kernel
theorem dX7_endAt_23 : decode cX7_endAt 23 = .ok (.bipush (-4), 2) := by decide +kernel
theorem dX7_endAt_25 : decode cX7_endAt 25 = .ok (.if_icmp .ne 5, 3) := by decide +kernel
theorem dX7_endAt_28 : decode cX7_endAt 28 = .ok (.iconst 1, 1) := by decide +kernel
theorem dX7_endAt_29 : decode cX7_endAt 29 = .ok (.ireturn, 1) := by decide +kernel
theorem dX7_endAt_30 : decode cX7_endAt 30 = .ok (.aload_n 0, 1) := by decide +kernel
theorem dX7_endAt_31 : decode cX7_endAt 31 = .ok (.getfield 37, 3) := by decide +kernel
theorem dX7_endAt_34 : decode cX7_endAt 34 = .ok (.aload_n 0, 1) := by decide +kernel
theorem dX7_endAt_35 : decode cX7_endAt 35 = .ok (.getfield 10, 3) := by decide +kernel
theorem dX7_endAt_38 : decode cX7_endAt 38 = .ok (.aload_n 0, 1) := by decide +kernel
theorem dX7_endAt_39 : decode cX7_endAt 39 = .ok (.getfield 44, 3) := by decide +kernel
theorem dX7_endAt_42 : decode cX7_endAt 42 = .ok (.getfield 210, 3) := by decide +kernel
theorem dX7_endAt_45 : decode cX7_endAt 45 = .ok (.iload_n 1, 1) := by decide +kernel
theorem dX7_endAt_46 : decode cX7_endAt 46 = .ok (.iaload, 1) := by decide +kernel
theorem dX7_endAt_47 : decode cX7_endAt 47 = .ok (.aload_n 0, 1) := by decide +kernel
theorem dX7_endAt_48 : decode cX7_endAt 48 = .ok (.getfield 44, 3) := by decide +kernel
theorem dX7_endAt_51 : decode cX7_endAt 51 = .ok (.getfield 213, 3) := by decide +kernel
theorem dX7_endAt_54 : decode cX7_endAt 54 = .ok (.iload_n 1, 1) := by decide +kernel
theorem dX7_endAt_55 : decode cX7_endAt 55 = .ok (.iaload, 1) := by decide +kernel
theorem dX7_endAt_56 : decode cX7_endAt 56 = .ok (.invokevirtual 144, 3) := by decide +kernel
theorem dX7_endAt_59 : decode cX7_endAt 59 = .ok (.aload_n 0, 1) := by decide +kernel
theorem dX7_endAt_60 : decode cX7_endAt 60 = .ok (.getfield 44, 3) := by decide +kernel
theorem dX7_endAt_63 : decode cX7_endAt 63 = .ok (.iload_n 1, 1) := by decide +kernel
theorem dX7_endAt_64 : decode cX7_endAt 64 = .ok (.aload_n 0, 1) := by decide +kernel
theorem dX7_endAt_65 : decode cX7_endAt 65 = .ok (.getfield 37, 3) := by decide +kernel
theorem dX7_endAt_68 : decode cX7_endAt 68 = .ok (.invokevirtual 282, 3) := by decide +kernel
theorem dX7_endAt_71 : decode cX7_endAt 71 = .ok (.istore_n 2, 1) := by decide +kernel
theorem dX7_endAt_72 : decode cX7_endAt 72 = .ok (.iload_n 2, 1) := by decide +kernel
theorem dX7_endAt_73 : decode cX7_endAt 73 = .ok (.aload_n 0, 1) := by decide +kernel
theorem dX7_endAt_74 : decode cX7_endAt 74 = .ok (.getfield 44, 3) := by decide +kernel
theorem dX7_endAt_77 : decode cX7_endAt 77 = .ok (.iload_n 1, 1) := by decide +kernel
theorem dX7_endAt_78 : decode cX7_endAt 78 = .ok (.iconst 4, 1) := by decide +kernel
theorem dX7_endAt_79 : decode cX7_endAt 79 = .ok (.invokevirtual 207, 3) := by decide +kernel
theorem dX7_endAt_82 : decode cX7_endAt 82 = .ok (.if_icmp .gt 5, 3) := by decide +kernel
theorem dX7_endAt_85 : decode cX7_endAt 85 = .ok (.iconst 3, 1) := by decide +kernel
theorem dX7_endAt_86 : decode cX7_endAt 86 = .ok (.ireturn, 1) := by decide +kernel
theorem dX7_endAt_87 : decode cX7_endAt 87 = .ok (.iconst 0, 1) := by decide +kernel
theorem dX7_endAt_88 : decode cX7_endAt 88 = .ok (.istore_n 3, 1) := by decide +kernel
theorem dX7_endAt_89 : decode cX7_endAt 89 = .ok (.iload_n 3, 1) := by decide +kernel
theorem dX7_endAt_90 : decode cX7_endAt 90 = .ok (.bipush 6, 2) := by decide +kernel
theorem dX7_endAt_92 : decode cX7_endAt 92 = .ok (.if_icmp .ge 39, 3) := by decide +kernel
theorem dX7_endAt_95 : decode cX7_endAt 95 = .ok (.aload_n 0, 1) := by decide +kernel
theorem dX7_endAt_96 : decode cX7_endAt 96 = .ok (.getfield 37, 3) := by decide +kernel
theorem dX7_endAt_99 : decode cX7_endAt 99 = .ok (.iload_n 3, 1) := by decide +kernel
theorem dX7_endAt_100 : decode cX7_endAt 100 = .ok (.invokevirtual 160, 3) := by decide +kernel
theorem dX7_endAt_103 : decode cX7_endAt 103 = .ok (.iconst 1, 1) := by decide +kernel
theorem dX7_endAt_104 : decode cX7_endAt 104 = .ok (.if_icmp .ne 21, 3) := by decide +kernel
theorem dX7_endAt_107 : decode cX7_endAt 107 = .ok (.iload_n 2, 1) := by decide +kernel
theorem dX7_endAt_108 : decode cX7_endAt 108 = .ok (.aload_n 0, 1) := by decide +kernel
theorem dX7_endAt_109 : decode cX7_endAt 109 = .ok (.getfield 37, 3) := by decide +kernel
theorem dX7_endAt_112 : decode cX7_endAt 112 = .ok (.iload_n 3, 1) := by decide +kernel
theorem dX7_endAt_113 : decode cX7_endAt 113 = .ok (.invokevirtual 163, 3) := by decide +kernel
theorem dX7_endAt_116 : decode cX7_endAt 116 = .ok (.isub, 1) := by decide +kernel
theorem dX7_endAt_117 : decode cX7_endAt 117 = .ok (.invokestatic 172, 3) := by decide +kernel
theorem dX7_endAt_120 : decode cX7_endAt 120 = .ok (.ifCond .ne 5, 3) := by decide +kernel
theorem dX7_endAt_123 : decode cX7_endAt 123 = .ok (.iconst 2, 1) := by decide +kernel
theorem dX7_endAt_124 : decode cX7_endAt 124 = .ok (.ireturn, 1) := by decide +kernel
theorem dX7_endAt_125 : decode cX7_endAt 125 = .ok (.iinc 3 1, 3) := by decide +kernel
theorem dX7_endAt_128 : decode cX7_endAt 128 = .ok (.goto (-39), 3) := by decide +kernel
theorem dX7_endAt_131 : decode cX7_endAt 131 = .ok (.iconst 5, 1) := by decide +kernel
theorem dX7_endAt_132 : decode cX7_endAt 132 = .ok (.ireturn, 1) := by decide +kernel
set_option maxRecDepth 20000 in
theorem ggX7_findGuesses_X5_register : GoodIn wsX7_findGuesses wsX5_register := goodIn_r _ [8, 9, 10, 11, 12, 7, 13, 14, 15, 16, 17, 82, 83, 84, 85, 86, 87, 88, 89, 90] rfl rfl
set_option maxRecDepth 20000 in
theorem gX7_findGuesses_X5_register : GoodIn wsX7_findGuesses (wsV RX7 207 RX5 yX5_register wsX5_register) := goodIn_app (goodIn_of _ (by decide +kernel)) ggX7_findGuesses_X5_register
set_option maxRecDepth 20000 in
theorem ggX7_findGuesses_X0_lookThrough : GoodIn wsX7_findGuesses wsX0_lookThrough := goodIn_r _ [22, 23, 24, 16, 25, 26, 27, 21, 28, 29, 30, 31, 32, 33, 34, 35, 36, 37, 38, 39, 40, 41, 42, 43, 44, 45, 46, 47, 48, 49, 50, 51, 52, 53, 54, 55, 56, 57, 58, 59, 60, 61, 62, 63, 64, 65, 66, 67, 68, 69, 70, 91, 92, 93, 94, 95, 96, 97, 98, 99, 100, 101, 102] rfl rfl
set_option maxRecDepth 20000 in
theorem gX7_findGuesses_X0_lookThrough : GoodIn wsX7_findGuesses (wsV RX7 219 RX0 yX0_lookThrough wsX0_lookThrough) := goodIn_app (goodIn_of _ (by decide +kernel)) ggX7_findGuesses_X0_lookThrough
theorem dX7_findGuesses_0 : decode cX7_findGuesses 0 = .ok (.aload_n 0, 1) := by decide +kernel
theorem dX7_findGuesses_1 : decode cX7_findGuesses 1 = .ok (.getfield 51, 3) := by decide +kernel
theorem dX7_findGuesses_4 : decode cX7_findGuesses 4 = .ok (.aload_n 0, 1) := by decide +kernel
theorem dX7_findGuesses_5 : decode cX7_findGuesses 5 = .ok (.getfield 10, 3) := by decide +kernel
theorem dX7_findGuesses_8 : decode cX7_findGuesses 8 = .ok (.aload_n 0, 1) := by decide +kernel
theorem dX7_findGuesses_9 : decode cX7_findGuesses 9 = .ok (.getfield 44, 3) := by decide +kernel
theorem dX7_findGuesses_12 : decode cX7_findGuesses 12 = .ok (.iload_n 1, 1) := by decide +kernel
theorem dX7_findGuesses_13 : decode cX7_findGuesses 13 = .ok (.iconst 4, 1) := by decide +kernel
theorem dX7_findGuesses_14 : decode cX7_findGuesses 14 = .ok (.invokevirtual 207, 3) := by decide +kernel
theorem dX7_findGuesses_17 : decode cX7_findGuesses 17 = .ok (.aload_n 0, 1) := by decide +kernel
theorem dX7_findGuesses_18 : decode cX7_findGuesses 18 = .ok (.getfield 44, 3) := by decide +kernel
theorem dX7_findGuesses_21 : decode cX7_findGuesses 21 = .ok (.getfield 210, 3) := by decide +kernel
theorem dX7_findGuesses_24 : decode cX7_findGuesses 24 = .ok (.iload_n 1, 1) := by decide +kernel
theorem dX7_findGuesses_25 : decode cX7_findGuesses 25 = .ok (.iaload, 1) := by decide +kernel
theorem dX7_findGuesses_26 : decode cX7_findGuesses 26 = .ok (.invokevirtual 219, 3) := by decide +kernel
theorem dX7_findGuesses_29 : decode cX7_findGuesses 29 = .ok (.aload_n 0, 1) := by decide +kernel
theorem dX7_findGuesses_30 : decode cX7_findGuesses 30 = .ok (.getfield 51, 3) := by decide +kernel
theorem dX7_findGuesses_33 : decode cX7_findGuesses 33 = .ok (.getfield 222, 3) := by decide +kernel
theorem dX7_findGuesses_36 : decode cX7_findGuesses 36 = .ok (.ireturn, 1) := by decide +kernel
set_option maxRecDepth 20000 in
theorem ggX7_landsIn_X3_at : GoodIn wsX7_landsIn wsX3_at := goodIn_r _ [7, 8, 9, 10, 37, 38, 39] rfl rfl
set_option maxRecDepth 20000 in
theorem gX7_landsIn_X3_at : GoodIn wsX7_landsIn (wsV RX7 127 RX3 yX3_at wsX3_at) := goodIn_app (goodIn_of _ (by decide +kernel)) ggX7_landsIn_X3_at
theorem dX7_landsIn_0 : decode cX7_landsIn 0 = .ok (.aload_n 0, 1) := by decide +kernel
theorem dX7_landsIn_1 : decode cX7_landsIn 1 = .ok (.getfield 10, 3) := by decide +kernel
theorem dX7_landsIn_4 : decode cX7_landsIn 4 = .ok (.getfield 102, 3) := by decide +kernel
theorem dX7_landsIn_7 : decode cX7_landsIn 7 = .ok (.iload_n 2, 1) := by decide +kernel
theorem dX7_landsIn_8 : decode cX7_landsIn 8 = .ok (.iconst 4, 1) := by decide +kernel
theorem dX7_landsIn_9 : decode cX7_landsIn 9 = .ok (.invokevirtual 127, 3) := by decide +kernel
theorem dX7_landsIn_12 : decode cX7_landsIn 12 = .ok (.aload_n 0, 1) := by decide +kernel
theorem dX7_landsIn_13 : decode cX7_landsIn 13 = .ok (.getfield 44, 3) := by decide +kernel
theorem dX7_landsIn_16 : decode cX7_landsIn 16 = .ok (.getfield 210, 3) := by decide +kernel
theorem dX7_landsIn_19 : decode cX7_landsIn 19 = .ok (.iload_n 1, 1) := by decide +kernel
theorem dX7_landsIn_20 : decode cX7_landsIn 20 = .ok (.iaload, 1) := by decide +kernel
theorem dX7_landsIn_21 : decode cX7_landsIn 21 = .ok (.if_icmp .ne 55, 3) := by decide +kernel
theorem dX7_landsIn_24 : decode cX7_landsIn 24 = .ok (.aload_n 0, 1) := by decide +kernel
theorem dX7_landsIn_25 : decode cX7_landsIn 25 = .ok (.getfield 10, 3) := by decide +kernel
theorem dX7_landsIn_28 : decode cX7_landsIn 28 = .ok (.getfield 102, 3) := by decide +kernel
theorem dX7_landsIn_31 : decode cX7_landsIn 31 = .ok (.iload_n 2, 1) := by decide +kernel
theorem dX7_landsIn_32 : decode cX7_landsIn 32 = .ok (.iconst 0, 1) := by decide +kernel
theorem dX7_landsIn_33 : decode cX7_landsIn 33 = .ok (.invokevirtual 127, 3) := by decide +kernel
theorem dX7_landsIn_36 : decode cX7_landsIn 36 = .ok (.aload_n 0, 1) := by decide +kernel
theorem dX7_landsIn_37 : decode cX7_landsIn 37 = .ok (.getfield 44, 3) := by decide +kernel
theorem dX7_landsIn_40 : decode cX7_landsIn 40 = .ok (.getfield 213, 3) := by decide +kernel
theorem dX7_landsIn_43 : decode cX7_landsIn 43 = .ok (.iload_n 1, 1) := by decide +kernel
theorem dX7_landsIn_44 : decode cX7_landsIn 44 = .ok (.iaload, 1) := by decide +kernel
theorem dX7_landsIn_45 : decode cX7_landsIn 45 = .ok (.if_icmp .gt 31, 3) := by decide +kernel
theorem dX7_landsIn_48 : decode cX7_landsIn 48 = .ok (.aload_n 0, 1) := by decide +kernel
theorem dX7_landsIn_49 : decode cX7_landsIn 49 = .ok (.getfield 10, 3) := by decide +kernel
theorem dX7_landsIn_52 : decode cX7_landsIn 52 = .ok (.getfield 102, 3) := by decide +kernel
theorem dX7_landsIn_55 : decode cX7_landsIn 55 = .ok (.iload_n 2, 1) := by decide +kernel
theorem dX7_landsIn_56 : decode cX7_landsIn 56 = .ok (.iconst 1, 1) := by decide +kernel
theorem dX7_landsIn_57 : decode cX7_landsIn 57 = .ok (.invokevirtual 127, 3) := by decide +kernel
theorem dX7_landsIn_60 : decode cX7_landsIn 60 = .ok (.aload_n 0, 1) := by decide +kernel
theorem dX7_landsIn_61 : decode cX7_landsIn 61 = .ok (.getfield 44, 3) := by decide +kernel
theorem dX7_landsIn_64 : decode cX7_landsIn 64 = .ok (.getfield 213, 3) := by decide +kernel
theorem dX7_landsIn_67 : decode cX7_landsIn 67 = .ok (.iload_n 1, 1) := by decide +kernel
theorem dX7_landsIn_68 : decode cX7_landsIn 68 = .ok (.iaload, 1) := by decide +kernel
theorem dX7_landsIn_69 : decode cX7_landsIn 69 = .ok (.if_icmp .lt 7, 3) := by decide +kernel
theorem dX7_landsIn_72 : decode cX7_landsIn 72 = .ok (.iconst 1, 1) := by decide +kernel
theorem dX7_landsIn_73 : decode cX7_landsIn 73 = .ok (.goto 4, 3) := by decide +kernel
theorem dX7_landsIn_76 : decode cX7_landsIn 76 = .ok (.iconst 0, 1) := by decide +kernel
theorem dX7_landsIn_77 : decode cX7_landsIn 77 = .ok (.ireturn, 1) := by decide +kernel
set_option maxRecDepth 20000 in
theorem ggX7_catchIn_X3_at : GoodIn wsX7_catchIn wsX3_at := goodIn_r _ [6, 7, 8, 9, 33, 34, 35] rfl rfl
set_option maxRecDepth 20000 in
theorem gX7_catchIn_X3_at : GoodIn wsX7_catchIn (wsV RX7 127 RX3 yX3_at wsX3_at) := goodIn_app (goodIn_of _ (by decide +kernel)) ggX7_catchIn_X3_at
set_option maxRecDepth 20000 in
theorem ggX7_catchIn_X7_landsIn : GoodIn wsX7_catchIn wsX7_landsIn := goodIn_r _ [14, 1, 15, 2, 3, 4, 5, 6, 7, 8, 9, 16, 17, 18, 19, 20, 21, 22, 23, 24, 25, 26, 27, 28, 29, 30, 31, 32, 36, 37, 38, 39, 40, 41, 42, 43, 44, 33, 34, 35] rfl rfl
set_option maxRecDepth 20000 in
theorem gX7_catchIn_X7_landsIn : GoodIn wsX7_catchIn (wsV RX7 238 RX7 yX7_landsIn wsX7_landsIn) := goodIn_app (goodIn_of _ (by decide +kernel)) ggX7_catchIn_X7_landsIn
theorem dX7_catchIn_0 : decode cX7_catchIn 0 = .ok (.iconst 0, 1) := by decide +kernel
theorem dX7_catchIn_1 : decode cX7_catchIn 1 = .ok (.istore_n 3, 1) := by decide +kernel
theorem dX7_catchIn_2 : decode cX7_catchIn 2 = .ok (.iload_n 3, 1) := by decide +kernel
theorem dX7_catchIn_3 : decode cX7_catchIn 3 = .ok (.aload_n 0, 1) := by decide +kernel
theorem dX7_catchIn_4 : decode cX7_catchIn 4 = .ok (.getfield 10, 3) := by decide +kernel
theorem dX7_catchIn_7 : decode cX7_catchIn 7 = .ok (.getfield 102, 3) := by decide +kernel
theorem dX7_catchIn_10 : decode cX7_catchIn 10 = .ok (.getfield 94, 3) := by decide +kernel
theorem dX7_catchIn_13 : decode cX7_catchIn 13 = .ok (.if_icmp .ge 47, 3) := by decide +kernel
theorem dX7_catchIn_16 : decode cX7_catchIn 16 = .ok (.aload_n 0, 1) := by decide +kernel
theorem dX7_catchIn_17 : decode cX7_catchIn 17 = .ok (.getfield 10, 3) := by decide +kernel
theorem dX7_catchIn_20 : decode cX7_catchIn 20 = .ok (.getfield 102, 3) := by decide +kernel
theorem dX7_catchIn_23 : decode cX7_catchIn 23 = .ok (.iload_n 3, 1) := by decide +kernel
theorem dX7_catchIn_24 : decode cX7_catchIn 24 = .ok (.iconst 2, 1) := by decide +kernel
theorem dX7_catchIn_25 : decode cX7_catchIn 25 = .ok (.invokevirtual 127, 3) := by decide +kernel
theorem dX7_catchIn_28 : decode cX7_catchIn 28 = .ok (.istore 4, 2) := by decide +kernel
theorem dX7_catchIn_30 : decode cX7_catchIn 30 = .ok (.aload_n 0, 1) := by decide +kernel
theorem dX7_catchIn_31 : decode cX7_catchIn 31 = .ok (.iload_n 1, 1) := by decide +kernel
theorem dX7_catchIn_32 : decode cX7_catchIn 32 = .ok (.iload_n 3, 1) := by decide +kernel
theorem dX7_catchIn_33 : decode cX7_catchIn 33 = .ok (.invokevirtual 238, 3) := by decide +kernel
theorem dX7_catchIn_36 : decode cX7_catchIn 36 = .ok (.ifCond .eq 18, 3) := by decide +kernel
theorem dX7_catchIn_39 : decode cX7_catchIn 39 = .ok (.iload 4, 2) := by decide +kernel
theorem dX7_catchIn_41 : decode cX7_catchIn 41 = .ok (.iload_n 2, 1) := by decide +kernel
theorem dX7_catchIn_42 : decode cX7_catchIn 42 = .ok (.if_icmp .eq 10, 3) := by decide +kernel
theorem dX7_catchIn_45 : decode cX7_catchIn 45 = .ok (.iload 4, 2) := by decide +kernel
theorem dX7_catchIn_47 : decode cX7_catchIn 47 = .ok (.bipush 10, 2) := by decide +kernel
theorem dX7_catchIn_49 : decode cX7_catchIn 49 = .ok (.if_icmp .ne 5, 3) := by decide +kernel
theorem dX7_catchIn_52 : decode cX7_catchIn 52 = .ok (.iload_n 3, 1) := by decide +kernel
theorem dX7_catchIn_53 : decode cX7_catchIn 53 = .ok (.ireturn, 1) := by decide +kernel
theorem dX7_catchIn_54 : decode cX7_catchIn 54 = .ok (.iinc 3 1, 3) := by decide +kernel
theorem dX7_catchIn_57 : decode cX7_catchIn 57 = .ok (.goto (-55), 3) := by decide +kernel
theorem dX7_catchIn_60 : decode cX7_catchIn 60 = .ok (.bipush (-4), 2) := by decide +kernel
theorem dX7_catchIn_62 : decode cX7_catchIn 62 = .ok (.ireturn, 1) := by decide +kernel
set_option maxRecDepth 20000 in
theorem ggX7_catcherOf_X7_catchIn : GoodIn wsX7_catcherOf wsX7_catchIn := goodIn_r _ [6, 7, 8, 9, 10, 11, 12, 13, 14, 15, 16, 17, 18, 5, 19, 1, 20, 21, 22, 23, 24, 25, 26, 27, 28, 29, 30, 40, 41, 42, 43, 44, 45, 46, 47, 48, 31, 32, 33, 34, 35, 36, 37, 38, 39] rfl rfl
set_option maxRecDepth 20000 in
theorem gX7_catcherOf_X7_catchIn : GoodIn wsX7_catcherOf (wsV RX7 235 RX7 yX7_catchIn wsX7_catchIn) := goodIn_app (goodIn_of _ (by decide +kernel)) ggX7_catcherOf_X7_catchIn
theorem dX7_catcherOf_0 : decode cX7_catcherOf 0 = .ok (.iconst 0, 1) := by decide +kernel
theorem dX7_catcherOf_1 : decode cX7_catcherOf 1 = .ok (.istore_n 2, 1) := by decide +kernel
theorem dX7_catcherOf_2 : decode cX7_catcherOf 2 = .ok (.iload_n 2, 1) := by decide +kernel
theorem dX7_catcherOf_3 : decode cX7_catcherOf 3 = .ok (.aload_n 0, 1) := by decide +kernel
theorem dX7_catcherOf_4 : decode cX7_catcherOf 4 = .ok (.getfield 44, 3) := by decide +kernel
theorem dX7_catcherOf_7 : decode cX7_catcherOf 7 = .ok (.getfield 112, 3) := by decide +kernel
theorem dX7_catcherOf_10 : decode cX7_catcherOf 10 = .ok (.if_icmp .ge 22, 3) := by decide +kernel
theorem dX7_catcherOf_13 : decode cX7_catcherOf 13 = .ok (.aload_n 0, 1) := by decide +kernel
theorem dX7_catcherOf_14 : decode cX7_catcherOf 14 = .ok (.iload_n 2, 1) := by decide +kernel
theorem dX7_catcherOf_15 : decode cX7_catcherOf 15 = .ok (.iload_n 1, 1) := by decide +kernel
theorem dX7_catcherOf_16 : decode cX7_catcherOf 16 = .ok (.invokevirtual 235, 3) := by decide +kernel
theorem dX7_catcherOf_19 : decode cX7_catcherOf 19 = .ok (.bipush (-4), 2) := by decide +kernel
theorem dX7_catcherOf_21 : decode cX7_catcherOf 21 = .ok (.if_icmp .eq 5, 3) := by decide +kernel
theorem dX7_catcherOf_24 : decode cX7_catcherOf 24 = .ok (.iload_n 2, 1) := by decide +kernel
theorem dX7_catcherOf_25 : decode cX7_catcherOf 25 = .ok (.ireturn, 1) := by decide +kernel
theorem dX7_catcherOf_26 : decode cX7_catcherOf 26 = .ok (.iinc 2 1, 3) := by decide +kernel
theorem dX7_catcherOf_29 : decode cX7_catcherOf 29 = .ok (.goto (-27), 3) := by decide +kernel
theorem dX7_catcherOf_32 : decode cX7_catcherOf 32 = .ok (.bipush (-4), 2) := by decide +kernel
theorem dX7_catcherOf_34 : decode cX7_catcherOf 34 = .ok (.ireturn, 1) := by decide +kernel
