theorem dX8_marks_27 : decode cX8_marks 27 = .ok (.iload_n 1, 1) := by decide +kernel
theorem dX8_marks_28 : decode cX8_marks 28 = .ok (.iadd, 1) := by decide +kernel
theorem dX8_marks_29 : decode cX8_marks 29 = .ok (.aload_n 0, 1) := by decide +kernel
theorem dX8_marks_30 : decode cX8_marks 30 = .ok (.getfield 22, 3) := by decide +kernel
theorem dX8_marks_33 : decode cX8_marks 33 = .ok (.iload_n 1, 1) := by decide +kernel
theorem dX8_marks_34 : decode cX8_marks 34 = .ok (.iaload, 1) := by decide +kernel
theorem dX8_marks_35 : decode cX8_marks 35 = .ok (.iastore, 1) := by decide +kernel
theorem dX8_marks_36 : decode cX8_marks 36 = .ok (.iinc 1 1, 3) := by decide +kernel
theorem dX8_marks_39 : decode cX8_marks 39 = .ok (.goto (-29), 3) := by decide +kernel
theorem dX8_marks_42 : decode cX8_marks 42 = .ok (.aload_n 0, 1) := by decide +kernel
theorem dX8_marks_43 : decode cX8_marks 43 = .ok (.dup, 1) := by decide +kernel
theorem dX8_marks_44 : decode cX8_marks 44 = .ok (.getfield 185, 3) := by decide +kernel
theorem dX8_marks_47 : decode cX8_marks 47 = .ok (.iconst 1, 1) := by decide +kernel
theorem dX8_marks_48 : decode cX8_marks 48 = .ok (.iadd, 1) := by decide +kernel
theorem dX8_marks_49 : decode cX8_marks 49 = .ok (.putfield 185, 3) := by decide +kernel
theorem dX8_marks_52 : decode cX8_marks 52 = .ok (.return_, 1) := by decide +kernel
set_option maxRecDepth 20000 in
theorem ggX8_resets_X8_begins : GoodIn wsX8_resets wsX8_begins := goodIn_r _ [8, 2, 9, 10, 11, 12, 13, 14, 15, 16, 17, 18, 19, 20, 21, 22, 23, 24, 25, 26, 27, 28, 29, 30, 31, 32, 33, 34, 35, 36] rfl rfl
set_option maxRecDepth 20000 in
theorem gX8_resets_X8_begins : GoodIn wsX8_resets (wsV RX8 188 RX8 yX8_begins wsX8_begins) := goodIn_app (goodIn_of _ (by decide +kernel)) ggX8_resets_X8_begins
theorem dX8_resets_0 : decode cX8_resets 0 = .ok (.aload_n 0, 1) := by decide +kernel
theorem dX8_resets_1 : decode cX8_resets 1 = .ok (.getfield 185, 3) := by decide +kernel
theorem dX8_resets_4 : decode cX8_resets 4 = .ok (.ifCond .ne 8, 3) := by decide +kernel
theorem dX8_resets_7 : decode cX8_resets 7 = .ok (.aload_n 0, 1) := by decide +kernel
theorem dX8_resets_8 : decode cX8_resets 8 = .ok (.invokevirtual 188, 3) := by decide +kernel
theorem dX8_resets_11 : decode cX8_resets 11 = .ok (.return_, 1) := by decide +kernel
theorem dX8_resets_12 : decode cX8_resets 12 = .ok (.aload_n 0, 1) := by decide +kernel
theorem dX8_resets_13 : decode cX8_resets 13 = .ok (.dup, 1) := by decide +kernel
theorem dX8_resets_14 : decode cX8_resets 14 = .ok (.getfield 185, 3) := by decide +kernel
theorem dX8_resets_17 : decode cX8_resets 17 = .ok (.iconst 1, 1) := by decide +kernel
theorem dX8_resets_18 : decode cX8_resets 18 = .ok (.isub, 1) := by decide +kernel
theorem dX8_resets_19 : decode cX8_resets 19 = .ok (.putfield 185, 3) := by decide +kernel
theorem dX8_resets_22 : decode cX8_resets 22 = .ok (.iconst 0, 1) := by decide +kernel
theorem dX8_resets_23 : decode cX8_resets 23 = .ok (.istore_n 1, 1) := by decide +kernel
theorem dX8_resets_24 : decode cX8_resets 24 = .ok (.iload_n 1, 1) := by decide +kernel
theorem dX8_resets_25 : decode cX8_resets 25 = .ok (.bipush 14, 2) := by decide +kernel
theorem dX8_resets_27 : decode cX8_resets 27 = .ok (.if_icmp .ge 29, 3) := by decide +kernel
theorem dX8_resets_30 : decode cX8_resets 30 = .ok (.aload_n 0, 1) := by decide +kernel
theorem dX8_resets_31 : decode cX8_resets 31 = .ok (.getfield 22, 3) := by decide +kernel
theorem dX8_resets_34 : decode cX8_resets 34 = .ok (.iload_n 1, 1) := by decide +kernel
theorem dX8_resets_35 : decode cX8_resets 35 = .ok (.aload_n 0, 1) := by decide +kernel
theorem dX8_resets_36 : decode cX8_resets 36 = .ok (.getfield 25, 3) := by decide +kernel
theorem dX8_resets_39 : decode cX8_resets 39 = .ok (.bipush 14, 2) := by decide +kernel
theorem dX8_resets_41 : decode cX8_resets 41 = .ok (.aload_n 0, 1) := by decide +kernel
theorem dX8_resets_42 : decode cX8_resets 42 = .ok (.getfield 185, 3) := by decide +kernel
theorem dX8_resets_45 : decode cX8_resets 45 = .ok (.imul, 1) := by decide +kernel
theorem dX8_resets_46 : decode cX8_resets 46 = .ok (.iload_n 1, 1) := by decide +kernel
theorem dX8_resets_47 : decode cX8_resets 47 = .ok (.iadd, 1) := by decide +kernel
theorem dX8_resets_48 : decode cX8_resets 48 = .ok (.iaload, 1) := by decide +kernel
theorem dX8_resets_49 : decode cX8_resets 49 = .ok (.iastore, 1) := by decide +kernel
theorem dX8_resets_50 : decode cX8_resets 50 = .ok (.iinc 1 1, 3) := by decide +kernel
theorem dX8_resets_53 : decode cX8_resets 53 = .ok (.goto (-29), 3) := by decide +kernel
theorem dX8_resets_56 : decode cX8_resets 56 = .ok (.return_, 1) := by decide +kernel
set_option maxRecDepth 20000 in
theorem ggX8_does_X8_ruled : GoodIn wsX8_does wsX8_ruled := goodIn_r _ [7, 2, 22, 23, 24, 25, 26, 27, 28, 29, 30, 31, 32, 33, 34, 35, 36, 37, 38, 39, 40, 41, 42, 43, 44, 45, 46, 47, 48, 49] rfl rfl
set_option maxRecDepth 20000 in
theorem gX8_does_X8_ruled : GoodIn wsX8_does (wsV RX8 191 RX8 yX8_ruled wsX8_ruled) := goodIn_app (goodIn_of _ (by decide +kernel)) ggX8_does_X8_ruled
set_option maxRecDepth 20000 in
theorem ggX8_does_X8_marks : GoodIn wsX8_does wsX8_marks := goodIn_r _ [11, 12, 13, 2, 22, 23, 24, 25, 26, 27, 28, 29, 30, 31, 32, 33, 34, 35, 36, 37, 38, 39, 40, 41, 42, 43, 44, 45, 46, 47, 48, 49] rfl rfl
set_option maxRecDepth 20000 in
theorem gX8_does_X8_marks : GoodIn wsX8_does (wsV RX8 195 RX8 yX8_marks wsX8_marks) := goodIn_app (goodIn_of _ (by decide +kernel)) ggX8_does_X8_marks
set_option maxRecDepth 20000 in
theorem ggX8_does_X8_resets : GoodIn wsX8_does wsX8_resets := goodIn_r _ [17, 12, 2, 13, 18, 19, 20, 6, 21, 22, 23, 24, 25, 26, 27, 28, 29, 30, 31, 32, 33, 34, 35, 36, 37, 38, 39, 40, 41, 42, 43, 44, 45, 46, 47, 48, 49] rfl rfl
set_option maxRecDepth 20000 in
theorem gX8_does_X8_resets : GoodIn wsX8_does (wsV RX8 198 RX8 yX8_resets wsX8_resets) := goodIn_app (goodIn_of _ (by decide +kernel)) ggX8_does_X8_resets
theorem dX8_does_0 : decode cX8_does 0 = .ok (.aload_n 0, 1) := by decide +kernel
theorem dX8_does_1 : decode cX8_does 1 = .ok (.getfield 7, 3) := by decide +kernel
theorem dX8_does_4 : decode cX8_does 4 = .ok (.bipush 64, 2) := by decide +kernel
theorem dX8_does_6 : decode cX8_does 6 = .ok (.iload_n 1, 1) := by decide +kernel
theorem dX8_does_7 : decode cX8_does 7 = .ok (.iadd, 1) := by decide +kernel
theorem dX8_does_8 : decode cX8_does 8 = .ok (.iaload, 1) := by decide +kernel
theorem dX8_does_9 : decode cX8_does 9 = .ok (.istore_n 2, 1) := by decide +kernel
theorem dX8_does_10 : decode cX8_does 10 = .ok (.aload_n 0, 1) := by decide +kernel
theorem dX8_does_11 : decode cX8_does 11 = .ok (.getfield 7, 3) := by decide +kernel
theorem dX8_does_14 : decode cX8_does 14 = .ok (.bipush 104, 2) := by decide +kernel
theorem dX8_does_16 : decode cX8_does 16 = .ok (.iload_n 1, 1) := by decide +kernel
theorem dX8_does_17 : decode cX8_does 17 = .ok (.iadd, 1) := by decide +kernel
theorem dX8_does_18 : decode cX8_does 18 = .ok (.iaload, 1) := by decide +kernel
theorem dX8_does_19 : decode cX8_does 19 = .ok (.istore_n 3, 1) := by decide +kernel
theorem dX8_does_20 : decode cX8_does 20 = .ok (.aload_n 0, 1) := by decide +kernel
theorem dX8_does_21 : decode cX8_does 21 = .ok (.getfield 7, 3) := by decide +kernel
theorem dX8_does_24 : decode cX8_does 24 = .ok (.bipush 24, 2) := by decide +kernel
theorem dX8_does_26 : decode cX8_does 26 = .ok (.iload_n 1, 1) := by decide +kernel
theorem dX8_does_27 : decode cX8_does 27 = .ok (.iadd, 1) := by decide +kernel
theorem dX8_does_28 : decode cX8_does 28 = .ok (.iaload, 1) := by decide +kernel
theorem dX8_does_29 : decode cX8_does 29 = .ok (.tableswitch 111 0 6 #[43, 46, 63, 73, 83, 94, 104], 43) := by decide +kernel
theorem dX8_does_72 : decode cX8_does 72 = .ok (.goto 72, 3) := by decide +kernel
theorem dX8_does_75 : decode cX8_does 75 = .ok (.aload_n 0, 1) := by decide +kernel
theorem dX8_does_76 : decode cX8_does 76 = .ok (.getfield 22, 3) := by decide +kernel
theorem dX8_does_79 : decode cX8_does 79 = .ok (.iconst 0, 1) := by decide +kernel
theorem dX8_does_80 : decode cX8_does 80 = .ok (.iload_n 2, 1) := by decide +kernel
theorem dX8_does_81 : decode cX8_does 81 = .ok (.iastore, 1) := by decide +kernel
theorem dX8_does_82 : decode cX8_does 82 = .ok (.aload_n 0, 1) := by decide +kernel
theorem dX8_does_83 : decode cX8_does 83 = .ok (.getfield 22, 3) := by decide +kernel
theorem dX8_does_86 : decode cX8_does 86 = .ok (.iconst 1, 1) := by decide +kernel
theorem dX8_does_87 : decode cX8_does 87 = .ok (.iload_n 3, 1) := by decide +kernel
theorem dX8_does_88 : decode cX8_does 88 = .ok (.iastore, 1) := by decide +kernel
theorem dX8_does_89 : decode cX8_does 89 = .ok (.goto 55, 3) := by decide +kernel
theorem dX8_does_92 : decode cX8_does 92 = .ok (.aload_n 0, 1) := by decide +kernel
theorem dX8_does_93 : decode cX8_does 93 = .ok (.getfield 22, 3) := by decide +kernel
theorem dX8_does_96 : decode cX8_does 96 = .ok (.iconst 1, 1) := by decide +kernel
theorem dX8_does_97 : decode cX8_does 97 = .ok (.iload_n 3, 1) := by decide +kernel
theorem dX8_does_98 : decode cX8_does 98 = .ok (.iastore, 1) := by decide +kernel
theorem dX8_does_99 : decode cX8_does 99 = .ok (.goto 45, 3) := by decide +kernel
theorem dX8_does_102 : decode cX8_does 102 = .ok (.aload_n 0, 1) := by decide +kernel
theorem dX8_does_103 : decode cX8_does 103 = .ok (.iload_n 2, 1) := by decide +kernel
theorem dX8_does_104 : decode cX8_does 104 = .ok (.iconst 1, 1) := by decide +kernel
theorem dX8_does_105 : decode cX8_does 105 = .ok (.iload_n 3, 1) := by decide +kernel
theorem dX8_does_106 : decode cX8_does 106 = .ok (.invokevirtual 191, 3) := by decide +kernel
theorem dX8_does_109 : decode cX8_does 109 = .ok (.goto 35, 3) := by decide +kernel
theorem dX8_does_112 : decode cX8_does 112 = .ok (.aload_n 0, 1) := by decide +kernel
theorem dX8_does_113 : decode cX8_does 113 = .ok (.iload_n 2, 1) := by decide +kernel
theorem dX8_does_114 : decode cX8_does 114 = .ok (.iconst 0, 1) := by decide +kernel
theorem dX8_does_115 : decode cX8_does 115 = .ok (.bipush (-4), 2) := by decide +kernel
theorem dX8_does_117 : decode cX8_does 117 = .ok (.invokevirtual 191, 3) := by decide +kernel
theorem dX8_does_120 : decode cX8_does 120 = .ok (.goto 24, 3) := by decide +kernel
theorem dX8_does_123 : decode cX8_does 123 = .ok (.aload_n 0, 1) := by decide +kernel
theorem dX8_does_124 : decode cX8_does 124 = .ok (.iload_n 2, 1) := by decide +kernel
theorem dX8_does_125 : decode cX8_does 125 = .ok (.iconst 2, 1) := by decide +kernel
theorem dX8_does_126 : decode cX8_does 126 = .ok (.iload_n 3, 1) := by decide +kernel
theorem dX8_does_127 : decode cX8_does 127 = .ok (.invokevirtual 191, 3) := by decide +kernel
theorem dX8_does_130 : decode cX8_does 130 = .ok (.goto 14, 3) := by decide +kernel
theorem dX8_does_133 : decode cX8_does 133 = .ok (.aload_n 0, 1) := by decide +kernel
theorem dX8_does_134 : decode cX8_does 134 = .ok (.invokevirtual 195, 3) := by decide +kernel
theorem dX8_does_137 : decode cX8_does 137 = .ok (.goto 7, 3) := by decide +kernel
theorem dX8_does_140 : decode cX8_does 140 = .ok (.aload_n 0, 1) := by decide +kernel
theorem dX8_does_141 : decode cX8_does 141 = .ok (.invokevirtual 198, 3) := by decide +kernel
theorem dX8_does_144 : decode cX8_does 144 = .ok (.return_, 1) := by decide +kernel
set_option maxRecDepth 20000 in
theorem ggX8_rows_X8_begins : GoodIn wsX8_rows wsX8_begins := goodIn_r _ [7, 8, 26, 27, 28, 29, 30, 31, 32, 33, 34, 35, 36, 37, 38, 39, 40, 41, 42, 43, 44, 45, 46, 47, 48, 49, 50, 51, 52, 53] rfl rfl
set_option maxRecDepth 20000 in
theorem gX8_rows_X8_begins : GoodIn wsX8_rows (wsV RX8 188 RX8 yX8_begins wsX8_begins) := goodIn_app (goodIn_of _ (by decide +kernel)) ggX8_rows_X8_begins
set_option maxRecDepth 20000 in
theorem ggX8_rows_X8_does : GoodIn wsX8_rows wsX8_does := goodIn_r _ [12, 1, 8, 13, 14, 15, 6, 16, 17, 18, 19, 20, 2, 21, 22, 23, 24, 25, 3, 4, 5, 7, 26, 27, 28, 29, 30, 31, 32, 33, 34, 35, 36, 37, 38, 39, 40, 41, 42, 43, 44, 45, 46, 47, 48, 49, 50, 51, 52, 53] rfl rfl
set_option maxRecDepth 20000 in
theorem gX8_rows_X8_does : GoodIn wsX8_rows (wsV RX8 201 RX8 yX8_does wsX8_does) := goodIn_app (goodIn_of _ (by decide +kernel)) ggX8_rows_X8_does
theorem dX8_rows_0 : decode cX8_rows 0 = .ok (.aload_n 0, 1) := by decide +kernel
theorem dX8_rows_1 : decode cX8_rows 1 = .ok (.getfield 7, 3) := by decide +kernel
theorem dX8_rows_4 : decode cX8_rows 4 = .ok (.iload_n 1, 1) := by decide +kernel
theorem dX8_rows_5 : decode cX8_rows 5 = .ok (.iaload, 1) := by decide +kernel
theorem dX8_rows_6 : decode cX8_rows 6 = .ok (.istore_n 3, 1) := by decide +kernel
theorem dX8_rows_7 : decode cX8_rows 7 = .ok (.aload_n 0, 1) := by decide +kernel
theorem dX8_rows_8 : decode cX8_rows 8 = .ok (.iconst 0, 1) := by decide +kernel
theorem dX8_rows_9 : decode cX8_rows 9 = .ok (.putfield 185, 3) := by decide +kernel
theorem dX8_rows_12 : decode cX8_rows 12 = .ok (.aload_n 0, 1) := by decide +kernel
theorem dX8_rows_13 : decode cX8_rows 13 = .ok (.invokevirtual 188, 3) := by decide +kernel
theorem dX8_rows_16 : decode cX8_rows 16 = .ok (.iconst 0, 1) := by decide +kernel
theorem dX8_rows_17 : decode cX8_rows 17 = .ok (.istore 4, 2) := by decide +kernel
theorem dX8_rows_19 : decode cX8_rows 19 = .ok (.iload 4, 2) := by decide +kernel
theorem dX8_rows_21 : decode cX8_rows 21 = .ok (.aload_n 0, 1) := by decide +kernel
theorem dX8_rows_22 : decode cX8_rows 22 = .ok (.getfield 7, 3) := by decide +kernel
theorem dX8_rows_25 : decode cX8_rows 25 = .ok (.sipush 297, 3) := by decide +kernel
theorem dX8_rows_28 : decode cX8_rows 28 = .ok (.iaload, 1) := by decide +kernel
theorem dX8_rows_29 : decode cX8_rows 29 = .ok (.if_icmp .ge 66, 3) := by decide +kernel
theorem dX8_rows_32 : decode cX8_rows 32 = .ok (.aload_n 0, 1) := by decide +kernel
theorem dX8_rows_33 : decode cX8_rows 33 = .ok (.getfield 7, 3) := by decide +kernel
theorem dX8_rows_36 : decode cX8_rows 36 = .ok (.sipush 144, 3) := by decide +kernel
theorem dX8_rows_39 : decode cX8_rows 39 = .ok (.iload 4, 2) := by decide +kernel
theorem dX8_rows_41 : decode cX8_rows 41 = .ok (.iadd, 1) := by decide +kernel
theorem dX8_rows_42 : decode cX8_rows 42 = .ok (.iaload, 1) := by decide +kernel
theorem dX8_rows_43 : decode cX8_rows 43 = .ok (.iload_n 1, 1) := by decide +kernel
theorem dX8_rows_44 : decode cX8_rows 44 = .ok (.if_icmp .ne 45, 3) := by decide +kernel
theorem dX8_rows_47 : decode cX8_rows 47 = .ok (.iload_n 3, 1) := by decide +kernel
theorem dX8_rows_48 : decode cX8_rows 48 = .ok (.aload_n 0, 1) := by decide +kernel
theorem dX8_rows_49 : decode cX8_rows 49 = .ok (.getfield 7, 3) := by decide +kernel
theorem dX8_rows_52 : decode cX8_rows 52 = .ok (.bipush 24, 2) := by decide +kernel
theorem dX8_rows_54 : decode cX8_rows 54 = .ok (.iload 4, 2) := by decide +kernel
theorem dX8_rows_56 : decode cX8_rows 56 = .ok (.iadd, 1) := by decide +kernel
theorem dX8_rows_57 : decode cX8_rows 57 = .ok (.iaload, 1) := by decide +kernel
theorem dX8_rows_58 : decode cX8_rows 58 = .ok (.ifCond .ne 16, 3) := by decide +kernel
theorem dX8_rows_61 : decode cX8_rows 61 = .ok (.aload_n 0, 1) := by decide +kernel
theorem dX8_rows_62 : decode cX8_rows 62 = .ok (.getfield 7, 3) := by decide +kernel
theorem dX8_rows_65 : decode cX8_rows 65 = .ok (.bipush 104, 2) := by decide +kernel
theorem dX8_rows_67 : decode cX8_rows 67 = .ok (.iload 4, 2) := by decide +kernel
theorem dX8_rows_69 : decode cX8_rows 69 = .ok (.iadd, 1) := by decide +kernel
theorem dX8_rows_70 : decode cX8_rows 70 = .ok (.iaload, 1) := by decide +kernel
theorem dX8_rows_71 : decode cX8_rows 71 = .ok (.goto 4, 3) := by decide +kernel
theorem dX8_rows_74 : decode cX8_rows 74 = .ok (.iconst 0, 1) := by decide +kernel
theorem dX8_rows_75 : decode cX8_rows 75 = .ok (.iadd, 1) := by decide +kernel
theorem dX8_rows_76 : decode cX8_rows 76 = .ok (.istore_n 3, 1) := by decide +kernel
theorem dX8_rows_77 : decode cX8_rows 77 = .ok (.iload_n 3, 1) := by decide +kernel
theorem dX8_rows_78 : decode cX8_rows 78 = .ok (.iload_n 2, 1) := by decide +kernel
theorem dX8_rows_79 : decode cX8_rows 79 = .ok (.if_icmp .le 4, 3) := by decide +kernel
theorem dX8_rows_82 : decode cX8_rows 82 = .ok (.return_, 1) := by decide +kernel
theorem dX8_rows_83 : decode cX8_rows 83 = .ok (.aload_n 0, 1) := by decide +kernel
theorem dX8_rows_84 : decode cX8_rows 84 = .ok (.iload 4, 2) := by decide +kernel
theorem dX8_rows_86 : decode cX8_rows 86 = .ok (.invokevirtual 201, 3) := by decide +kernel
theorem dX8_rows_89 : decode cX8_rows 89 = .ok (.iinc 4 1, 3) := by decide +kernel
theorem dX8_rows_92 : decode cX8_rows 92 = .ok (.goto (-73), 3) := by decide +kernel
theorem dX8_rows_95 : decode cX8_rows 95 = .ok (.return_, 1) := by decide +kernel
set_option maxRecDepth 20000 in
theorem ggX8_row_X8_in : GoodIn wsX8_row wsX8_in := goodIn_r _ [7] rfl rfl
set_option maxRecDepth 20000 in
theorem gX8_row_X8_in : GoodIn wsX8_row (va_wsS RX8 58 yX8_in wsX8_in) := goodIn_app (goodIn_of _ (by decide +kernel)) ggX8_row_X8_in
set_option maxRecDepth 20000 in
theorem ggX8_row_X8_whoseOf : GoodIn wsX8_row wsX8_whoseOf := goodIn_r _ [11, 12, 13, 14, 6, 15, 16, 17, 18, 19, 20, 4, 5, 7, 46, 47, 48, 49, 50, 51, 52, 53, 54, 55, 56, 57, 58, 59, 60, 61, 62, 63, 64, 65, 66, 67, 68, 69, 70, 71, 72, 73] rfl rfl
set_option maxRecDepth 20000 in
theorem gX8_row_X8_whoseOf : GoodIn wsX8_row (wsV RX8 157 RX8 yX8_whoseOf wsX8_whoseOf) := goodIn_app (goodIn_of _ (by decide +kernel)) ggX8_row_X8_whoseOf
set_option maxRecDepth 20000 in
theorem ggX8_row_X8_rows : GoodIn wsX8_row wsX8_rows := goodIn_r _ [24, 16, 2, 25, 26, 27, 6, 28, 3, 29, 30, 31, 32, 33, 34, 35, 36, 37, 38, 39, 40, 41, 42, 43, 44, 45, 46, 47, 48, 49, 50, 51, 52, 53, 54, 55, 56, 57, 58, 59, 60, 61, 62, 63, 64, 65, 66, 67, 68, 69, 70, 71, 72, 73] rfl rfl
set_option maxRecDepth 20000 in
theorem gX8_row_X8_rows : GoodIn wsX8_row (wsV RX8 204 RX8 yX8_rows wsX8_rows) := goodIn_app (goodIn_of _ (by decide +kernel)) ggX8_row_X8_rows
theorem dX8_row_0 : decode cX8_row 0 = .ok (.iload_n 2, 1) := by decide +kernel
theorem dX8_row_1 : decode cX8_row 1 = .ok (.i2l, 1) := by decide +kernel
theorem dX8_row_2 : decode cX8_row 2 = .ok (.lconst 0, 1) := by decide +kernel
theorem dX8_row_3 : decode cX8_row 3 = .ok (.ldc2_w 123, 3) := by decide +kernel
theorem dX8_row_6 : decode cX8_row 6 = .ok (.invokestatic 58, 3) := by decide +kernel
theorem dX8_row_9 : decode cX8_row 9 = .ok (.ifCond .ne 5, 3) := by decide +kernel
theorem dX8_row_12 : decode cX8_row 12 = .ok (.iconst (-1), 1) := by decide +kernel
theorem dX8_row_13 : decode cX8_row 13 = .ok (.ireturn, 1) := by decide +kernel
theorem dX8_row_14 : decode cX8_row 14 = .ok (.aload_n 0, 1) := by decide +kernel
theorem dX8_row_15 : decode cX8_row 15 = .ok (.iload_n 1, 1) := by decide +kernel
theorem dX8_row_16 : decode cX8_row 16 = .ok (.invokevirtual 157, 3) := by decide +kernel
theorem dX8_row_19 : decode cX8_row 19 = .ok (.istore_n 3, 1) := by decide +kernel
theorem dX8_row_20 : decode cX8_row 20 = .ok (.iload_n 3, 1) := by decide +kernel
theorem dX8_row_21 : decode cX8_row 21 = .ok (.bipush (-4), 2) := by decide +kernel
theorem dX8_row_23 : decode cX8_row 23 = .ok (.if_icmp .ne 6, 3) := by decide +kernel
theorem dX8_row_26 : decode cX8_row 26 = .ok (.bipush (-4), 2) := by decide +kernel
theorem dX8_row_28 : decode cX8_row 28 = .ok (.ireturn, 1) := by decide +kernel
theorem dX8_row_29 : decode cX8_row 29 = .ok (.aload_n 0, 1) := by decide +kernel
theorem dX8_row_30 : decode cX8_row 30 = .ok (.iload_n 3, 1) := by decide +kernel
theorem dX8_row_31 : decode cX8_row 31 = .ok (.iload_n 1, 1) := by decide +kernel
theorem dX8_row_32 : decode cX8_row 32 = .ok (.invokevirtual 204, 3) := by decide +kernel
theorem dX8_row_35 : decode cX8_row 35 = .ok (.iload_n 2, 1) := by decide +kernel
theorem dX8_row_36 : decode cX8_row 36 = .ok (.iconst 2, 1) := by decide +kernel
theorem dX8_row_37 : decode cX8_row 37 = .ok (.if_icmp .ne 10, 3) := by decide +kernel
theorem dX8_row_40 : decode cX8_row 40 = .ok (.aload_n 0, 1) := by decide +kernel
theorem dX8_row_41 : decode cX8_row 41 = .ok (.getfield 185, 3) := by decide +kernel
theorem dX8_row_44 : decode cX8_row 44 = .ok (.goto 9, 3) := by decide +kernel
theorem dX8_row_47 : decode cX8_row 47 = .ok (.aload_n 0, 1) := by decide +kernel
theorem dX8_row_48 : decode cX8_row 48 = .ok (.getfield 22, 3) := by decide +kernel
theorem dX8_row_51 : decode cX8_row 51 = .ok (.iload_n 2, 1) := by decide +kernel
theorem dX8_row_52 : decode cX8_row 52 = .ok (.iaload, 1) := by decide +kernel
theorem dX8_row_53 : decode cX8_row 53 = .ok (.ireturn, 1) := by decide +kernel
set_option maxRecDepth 20000 in
theorem ggX8_ruleOf_X8_in : GoodIn wsX8_ruleOf wsX8_in := goodIn_r _ [6] rfl rfl
set_option maxRecDepth 20000 in
theorem gX8_ruleOf_X8_in : GoodIn wsX8_ruleOf (va_wsS RX8 58 yX8_in wsX8_in) := goodIn_app (goodIn_of _ (by decide +kernel)) ggX8_ruleOf_X8_in
set_option maxRecDepth 20000 in
theorem ggX8_ruleOf_X8_whoseOf : GoodIn wsX8_ruleOf wsX8_whoseOf := goodIn_r _ [10, 11, 12, 13, 5, 14, 15, 16, 17, 18, 19, 3, 4, 6, 46, 47, 48, 49, 50, 51, 52, 53, 54, 55, 56, 57, 58, 59, 60, 61, 62, 63, 64, 65, 66, 67, 68, 69, 70, 71, 72, 73] rfl rfl
set_option maxRecDepth 20000 in
theorem gX8_ruleOf_X8_whoseOf : GoodIn wsX8_ruleOf (wsV RX8 157 RX8 yX8_whoseOf wsX8_whoseOf) := goodIn_app (goodIn_of _ (by decide +kernel)) ggX8_ruleOf_X8_whoseOf
set_option maxRecDepth 20000 in
theorem ggX8_ruleOf_X8_rows : GoodIn wsX8_ruleOf wsX8_rows := goodIn_r _ [23, 15, 24, 25, 26, 27, 5, 28, 2, 29, 30, 31, 32, 33, 34, 35, 36, 37, 38, 39, 40, 41, 42, 43, 44, 45, 46, 47, 48, 49, 50, 51, 52, 53, 54, 55, 56, 57, 58, 59, 60, 61, 62, 63, 64, 65, 66, 67, 68, 69, 70, 71, 72, 73] rfl rfl
set_option maxRecDepth 20000 in
theorem gX8_ruleOf_X8_rows : GoodIn wsX8_ruleOf (wsV RX8 204 RX8 yX8_rows wsX8_rows) := goodIn_app (goodIn_of _ (by decide +kernel)) ggX8_ruleOf_X8_rows
theorem dX8_ruleOf_0 : decode cX8_ruleOf 0 = .ok (.iload_n 2, 1) := by decide +kernel
theorem dX8_ruleOf_1 : decode cX8_ruleOf 1 = .ok (.i2l, 1) := by decide +kernel
theorem dX8_ruleOf_2 : decode cX8_ruleOf 2 = .ok (.lconst 0, 1) := by decide +kernel
theorem dX8_ruleOf_3 : decode cX8_ruleOf 3 = .ok (.ldc2_w 111, 3) := by decide +kernel
theorem dX8_ruleOf_6 : decode cX8_ruleOf 6 = .ok (.invokestatic 58, 3) := by decide +kernel
theorem dX8_ruleOf_9 : decode cX8_ruleOf 9 = .ok (.ifCond .eq 18, 3) := by decide +kernel
theorem dX8_ruleOf_12 : decode cX8_ruleOf 12 = .ok (.iload_n 2, 1) := by decide +kernel
theorem dX8_ruleOf_13 : decode cX8_ruleOf 13 = .ok (.iconst 4, 1) := by decide +kernel
theorem dX8_ruleOf_14 : decode cX8_ruleOf 14 = .ok (.if_icmp .eq 13, 3) := by decide +kernel
theorem dX8_ruleOf_17 : decode cX8_ruleOf 17 = .ok (.iload_n 3, 1) := by decide +kernel
theorem dX8_ruleOf_18 : decode cX8_ruleOf 18 = .ok (.i2l, 1) := by decide +kernel
theorem dX8_ruleOf_19 : decode cX8_ruleOf 19 = .ok (.lconst 0, 1) := by decide +kernel
theorem dX8_ruleOf_20 : decode cX8_ruleOf 20 = .ok (.lconst 1, 1) := by decide +kernel
theorem dX8_ruleOf_21 : decode cX8_ruleOf 21 = .ok (.invokestatic 58, 3) := by decide +kernel
theorem dX8_ruleOf_24 : decode cX8_ruleOf 24 = .ok (.ifCond .ne 5, 3) := by decide +kernel
theorem dX8_ruleOf_27 : decode cX8_ruleOf 27 = .ok (.iconst (-1), 1) := by decide +kernel
theorem dX8_ruleOf_28 : decode cX8_ruleOf 28 = .ok (.ireturn, 1) := by decide +kernel
theorem dX8_ruleOf_29 : decode cX8_ruleOf 29 = .ok (.aload_n 0, 1) := by decide +kernel
theorem dX8_ruleOf_30 : decode cX8_ruleOf 30 = .ok (.iload_n 1, 1) := by decide +kernel
theorem dX8_ruleOf_31 : decode cX8_ruleOf 31 = .ok (.invokevirtual 157, 3) := by decide +kernel
theorem dX8_ruleOf_34 : decode cX8_ruleOf 34 = .ok (.istore 4, 2) := by decide +kernel
theorem dX8_ruleOf_36 : decode cX8_ruleOf 36 = .ok (.iload 4, 2) := by decide +kernel
theorem dX8_ruleOf_38 : decode cX8_ruleOf 38 = .ok (.bipush (-4), 2) := by decide +kernel
theorem dX8_ruleOf_40 : decode cX8_ruleOf 40 = .ok (.if_icmp .ne 6, 3) := by decide +kernel
theorem dX8_ruleOf_43 : decode cX8_ruleOf 43 = .ok (.bipush (-4), 2) := by decide +kernel
theorem dX8_ruleOf_45 : decode cX8_ruleOf 45 = .ok (.ireturn, 1) := by decide +kernel
theorem dX8_ruleOf_46 : decode cX8_ruleOf 46 = .ok (.aload_n 0, 1) := by decide +kernel
theorem dX8_ruleOf_47 : decode cX8_ruleOf 47 = .ok (.iload 4, 2) := by decide +kernel
theorem dX8_ruleOf_49 : decode cX8_ruleOf 49 = .ok (.iload_n 1, 1) := by decide +kernel
theorem dX8_ruleOf_50 : decode cX8_ruleOf 50 = .ok (.invokevirtual 204, 3) := by decide +kernel
theorem dX8_ruleOf_53 : decode cX8_ruleOf 53 = .ok (.aload_n 0, 1) := by decide +kernel
theorem dX8_ruleOf_54 : decode cX8_ruleOf 54 = .ok (.getfield 22, 3) := by decide +kernel
theorem dX8_ruleOf_57 : decode cX8_ruleOf 57 = .ok (.iconst 2, 1) := by decide +kernel
theorem dX8_ruleOf_58 : decode cX8_ruleOf 58 = .ok (.bipush 6, 2) := by decide +kernel
theorem dX8_ruleOf_60 : decode cX8_ruleOf 60 = .ok (.iload_n 3, 1) := by decide +kernel
theorem dX8_ruleOf_61 : decode cX8_ruleOf 61 = .ok (.imul, 1) := by decide +kernel
theorem dX8_ruleOf_62 : decode cX8_ruleOf 62 = .ok (.iadd, 1) := by decide +kernel
theorem dX8_ruleOf_63 : decode cX8_ruleOf 63 = .ok (.iload_n 2, 1) := by decide +kernel
theorem dX8_ruleOf_64 : decode cX8_ruleOf 64 = .ok (.iadd, 1) := by decide +kernel
theorem dX8_ruleOf_65 : decode cX8_ruleOf 65 = .ok (.iaload, 1) := by decide +kernel
theorem dX8_ruleOf_66 : decode cX8_ruleOf 66 = .ok (.ireturn, 1) := by decide +kernel
set_option maxRecDepth 20000 in
theorem ggX8_becomes_X8_in : GoodIn wsX8_becomes wsX8_in := goodIn_r _ [6] rfl rfl
set_option maxRecDepth 20000 in
theorem gX8_becomes_X8_in : GoodIn wsX8_becomes (va_wsS RX8 58 yX8_in wsX8_in) := goodIn_app (goodIn_of _ (by decide +kernel)) ggX8_becomes_X8_in
theorem dX8_becomes_0 : decode cX8_becomes 0 = .ok (.iload_n 1, 1) := by decide +kernel
theorem dX8_becomes_1 : decode cX8_becomes 1 = .ok (.ifCond .eq 15, 3) := by decide +kernel
theorem dX8_becomes_4 : decode cX8_becomes 4 = .ok (.iload_n 3, 1) := by decide +kernel
theorem dX8_becomes_5 : decode cX8_becomes 5 = .ok (.i2l, 1) := by decide +kernel
theorem dX8_becomes_6 : decode cX8_becomes 6 = .ok (.lconst 0, 1) := by decide +kernel
theorem dX8_becomes_7 : decode cX8_becomes 7 = .ok (.ldc2_w 208, 3) := by decide +kernel
theorem dX8_becomes_10 : decode cX8_becomes 10 = .ok (.invokestatic 58, 3) := by decide +kernel
theorem dX8_becomes_13 : decode cX8_becomes 13 = .ok (.ifCond .ne 5, 3) := by decide +kernel
theorem dX8_becomes_16 : decode cX8_becomes 16 = .ok (.iconst (-1), 1) := by decide +kernel
theorem dX8_becomes_17 : decode cX8_becomes 17 = .ok (.ireturn, 1) := by decide +kernel
theorem dX8_becomes_18 : decode cX8_becomes 18 = .ok (.aload_n 0, 1) := by decide +kernel
theorem dX8_becomes_19 : decode cX8_becomes 19 = .ok (.getfield 7, 3) := by decide +kernel
theorem dX8_becomes_22 : decode cX8_becomes 22 = .ok (.iload_n 2, 1) := by decide +kernel
theorem dX8_becomes_23 : decode cX8_becomes 23 = .ok (.iaload, 1) := by decide +kernel
theorem dX8_becomes_24 : decode cX8_becomes 24 = .ok (.istore 4, 2) := by decide +kernel
theorem dX8_becomes_26 : decode cX8_becomes 26 = .ok (.aload_n 0, 1) := by decide +kernel
theorem dX8_becomes_27 : decode cX8_becomes 27 = .ok (.getfield 7, 3) := by decide +kernel
theorem dX8_becomes_30 : decode cX8_becomes 30 = .ok (.iload_n 2, 1) := by decide +kernel
theorem dX8_becomes_31 : decode cX8_becomes 31 = .ok (.iload_n 3, 1) := by decide +kernel
theorem dX8_becomes_32 : decode cX8_becomes 32 = .ok (.iastore, 1) := by decide +kernel
theorem dX8_becomes_33 : decode cX8_becomes 33 = .ok (.iload 4, 2) := by decide +kernel
theorem dX8_becomes_35 : decode cX8_becomes 35 = .ok (.ireturn, 1) := by decide +kernel
set_option maxRecDepth 20000 in
theorem ggX8_isRegister_X8_in : GoodIn wsX8_isRegister wsX8_in := goodIn_r _ [5] rfl rfl
set_option maxRecDepth 20000 in
theorem gX8_isRegister_X8_in : GoodIn wsX8_isRegister (va_wsS RX8 58 yX8_in wsX8_in) := goodIn_app (goodIn_of _ (by decide +kernel)) ggX8_isRegister_X8_in
theorem dX8_isRegister_0 : decode cX8_isRegister 0 = .ok (.iload_n 0, 1) := by decide +kernel
theorem dX8_isRegister_1 : decode cX8_isRegister 1 = .ok (.i2l, 1) := by decide +kernel
theorem dX8_isRegister_2 : decode cX8_isRegister 2 = .ok (.lconst 0, 1) := by decide +kernel
theorem dX8_isRegister_3 : decode cX8_isRegister 3 = .ok (.ldc2_w 111, 3) := by decide +kernel
theorem dX8_isRegister_6 : decode cX8_isRegister 6 = .ok (.invokestatic 58, 3) := by decide +kernel
theorem dX8_isRegister_9 : decode cX8_isRegister 9 = .ok (.ireturn, 1) := by decide +kernel
set_option maxRecDepth 20000 in
theorem ggX8_isWord_X8_in : GoodIn wsX8_isWord wsX8_in := goodIn_r _ [5] rfl rfl
set_option maxRecDepth 20000 in
theorem gX8_isWord_X8_in : GoodIn wsX8_isWord (va_wsS RX8 58 yX8_in wsX8_in) := goodIn_app (goodIn_of _ (by decide +kernel)) ggX8_isWord_X8_in
theorem dX8_isWord_0 : decode cX8_isWord 0 = .ok (.iload_n 0, 1) := by decide +kernel
theorem dX8_isWord_1 : decode cX8_isWord 1 = .ok (.i2l, 1) := by decide +kernel
theorem dX8_isWord_2 : decode cX8_isWord 2 = .ok (.lconst 0, 1) := by decide +kernel
theorem dX8_isWord_3 : decode cX8_isWord 3 = .ok (.ldc2_w 210, 3) := by decide +kernel
theorem dX8_isWord_6 : decode cX8_isWord 6 = .ok (.invokestatic 58, 3) := by decide +kernel
theorem dX8_isWord_9 : decode cX8_isWord 9 = .ok (.ireturn, 1) := by decide +kernel
set_option maxRecDepth 20000 in
theorem ggX8_put_X8_isRegister : GoodIn wsX8_put wsX8_isRegister := goodIn_r _ [4, 5, 6, 7, 3, 8] rfl rfl
set_option maxRecDepth 20000 in
theorem gX8_put_X8_isRegister : GoodIn wsX8_put (va_wsS RX8 212 yX8_isRegister wsX8_isRegister) := goodIn_app (goodIn_of _ (by decide +kernel)) ggX8_put_X8_isRegister
set_option maxRecDepth 20000 in
theorem ggX8_put_X8_becomes : GoodIn wsX8_put wsX8_becomes := goodIn_r _ [12, 13, 14, 6, 7, 3, 8, 15, 16, 17, 18, 19, 20, 21, 22, 23, 24, 25, 26, 27, 28, 29, 30, 31, 32, 33, 34, 35, 36, 37, 38, 39, 40, 41, 42] rfl rfl
set_option maxRecDepth 20000 in
theorem gX8_put_X8_becomes : GoodIn wsX8_put (wsV RX8 215 RX8 yX8_becomes wsX8_becomes) := goodIn_app (goodIn_of _ (by decide +kernel)) ggX8_put_X8_becomes
theorem dX8_put_0 : decode cX8_put 0 = .ok (.aload_n 0, 1) := by decide +kernel
theorem dX8_put_1 : decode cX8_put 1 = .ok (.iload_n 1, 1) := by decide +kernel
theorem dX8_put_2 : decode cX8_put 2 = .ok (.invokestatic 212, 3) := by decide +kernel
theorem dX8_put_5 : decode cX8_put 5 = .ok (.sipush 300, 3) := by decide +kernel
theorem dX8_put_8 : decode cX8_put 8 = .ok (.iload_n 1, 1) := by decide +kernel
theorem dX8_put_9 : decode cX8_put 9 = .ok (.iadd, 1) := by decide +kernel
theorem dX8_put_10 : decode cX8_put 10 = .ok (.iload_n 2, 1) := by decide +kernel
theorem dX8_put_11 : decode cX8_put 11 = .ok (.invokevirtual 215, 3) := by decide +kernel
theorem dX8_put_14 : decode cX8_put 14 = .ok (.ireturn, 1) := by decide +kernel
set_option maxRecDepth 20000 in
theorem ggX8_poke_X8_isWord : GoodIn wsX8_poke wsX8_isWord := goodIn_r _ [4, 5, 6, 7, 3, 8] rfl rfl
set_option maxRecDepth 20000 in
theorem gX8_poke_X8_isWord : GoodIn wsX8_poke (va_wsS RX8 219 yX8_isWord wsX8_isWord) := goodIn_app (goodIn_of _ (by decide +kernel)) ggX8_poke_X8_isWord
set_option maxRecDepth 20000 in
theorem ggX8_poke_X8_becomes : GoodIn wsX8_poke wsX8_becomes := goodIn_r _ [12, 13, 14, 6, 7, 3, 8, 15, 16, 17, 18, 19, 20, 21, 22, 23, 24, 25, 26, 27, 28, 29, 30, 31, 32, 33, 34, 35, 36, 37, 38, 39, 40, 41, 42] rfl rfl
set_option maxRecDepth 20000 in
theorem gX8_poke_X8_becomes : GoodIn wsX8_poke (wsV RX8 215 RX8 yX8_becomes wsX8_becomes) := goodIn_app (goodIn_of _ (by decide +kernel)) ggX8_poke_X8_becomes
theorem dX8_poke_0 : decode cX8_poke 0 = .ok (.aload_n 0, 1) := by decide +kernel
theorem dX8_poke_1 : decode cX8_poke 1 = .ok (.iload_n 1, 1) := by decide +kernel
theorem dX8_poke_2 : decode cX8_poke 2 = .ok (.invokestatic 219, 3) := by decide +kernel
theorem dX8_poke_5 : decode cX8_poke 5 = .ok (.sipush 306, 3) := by decide +kernel
theorem dX8_poke_8 : decode cX8_poke 8 = .ok (.iload_n 1, 1) := by decide +kernel
theorem dX8_poke_9 : decode cX8_poke 9 = .ok (.iadd, 1) := by decide +kernel
theorem dX8_poke_10 : decode cX8_poke 10 = .ok (.iload_n 2, 1) := by decide +kernel
theorem dX8_poke_11 : decode cX8_poke 11 = .ok (.invokevirtual 215, 3) := by decide +kernel
theorem dX8_poke_14 : decode cX8_poke 14 = .ok (.ireturn, 1) := by decide +kernel
set_option maxRecDepth 20000 in
theorem ggX8_get_X8_isRegister : GoodIn wsX8_get wsX8_isRegister := goodIn_r _ [5, 6, 7, 8, 4, 9] rfl rfl
set_option maxRecDepth 20000 in
theorem gX8_get_X8_isRegister : GoodIn wsX8_get (va_wsS RX8 212 yX8_isRegister wsX8_isRegister) := goodIn_app (goodIn_of _ (by decide +kernel)) ggX8_get_X8_isRegister
theorem dX8_get_0 : decode cX8_get 0 = .ok (.iload_n 1, 1) := by decide +kernel
theorem dX8_get_1 : decode cX8_get 1 = .ok (.invokestatic 212, 3) := by decide +kernel
theorem dX8_get_4 : decode cX8_get 4 = .ok (.ifCond .eq 16, 3) := by decide +kernel
theorem dX8_get_7 : decode cX8_get 7 = .ok (.aload_n 0, 1) := by decide +kernel
theorem dX8_get_8 : decode cX8_get 8 = .ok (.getfield 7, 3) := by decide +kernel
theorem dX8_get_11 : decode cX8_get 11 = .ok (.sipush 300, 3) := by decide +kernel
theorem dX8_get_14 : decode cX8_get 14 = .ok (.iload_n 1, 1) := by decide +kernel
theorem dX8_get_15 : decode cX8_get 15 = .ok (.iadd, 1) := by decide +kernel
theorem dX8_get_16 : decode cX8_get 16 = .ok (.iaload, 1) := by decide +kernel
theorem dX8_get_17 : decode cX8_get 17 = .ok (.goto 4, 3) := by decide +kernel
theorem dX8_get_20 : decode cX8_get 20 = .ok (.iconst (-1), 1) := by decide +kernel
theorem dX8_get_21 : decode cX8_get 21 = .ok (.ireturn, 1) := by decide +kernel
set_option maxRecDepth 20000 in
theorem ggX8_peek_X8_isWord : GoodIn wsX8_peek wsX8_isWord := goodIn_r _ [5, 6, 7, 8, 4, 9] rfl rfl
set_option maxRecDepth 20000 in
theorem gX8_peek_X8_isWord : GoodIn wsX8_peek (va_wsS RX8 219 yX8_isWord wsX8_isWord) := goodIn_app (goodIn_of _ (by decide +kernel)) ggX8_peek_X8_isWord
theorem dX8_peek_0 : decode cX8_peek 0 = .ok (.iload_n 1, 1) := by decide +kernel
theorem dX8_peek_1 : decode cX8_peek 1 = .ok (.invokestatic 219, 3) := by decide +kernel
theorem dX8_peek_4 : decode cX8_peek 4 = .ok (.ifCond .eq 16, 3) := by decide +kernel
theorem dX8_peek_7 : decode cX8_peek 7 = .ok (.aload_n 0, 1) := by decide +kernel
theorem dX8_peek_8 : decode cX8_peek 8 = .ok (.getfield 7, 3) := by decide +kernel
theorem dX8_peek_11 : decode cX8_peek 11 = .ok (.sipush 306, 3) := by decide +kernel
theorem dX8_peek_14 : decode cX8_peek 14 = .ok (.iload_n 1, 1) := by decide +kernel
theorem dX8_peek_15 : decode cX8_peek 15 = .ok (.iadd, 1) := by decide +kernel
theorem dX8_peek_16 : decode cX8_peek 16 = .ok (.iaload, 1) := by decide +kernel
theorem dX8_peek_17 : decode cX8_peek 17 = .ok (.goto 4, 3) := by decide +kernel
theorem dX8_peek_20 : decode cX8_peek 20 = .ok (.iconst (-1), 1) := by decide +kernel
theorem dX8_peek_21 : decode cX8_peek 21 = .ok (.ireturn, 1) := by decide +kernel
set_option maxRecDepth 20000 in
theorem ggX8_scoreOf_X8_whoseOf : GoodIn wsX8_scoreOf wsX8_whoseOf := goodIn_r _ [6, 7, 8, 9, 5, 10, 1, 11, 12, 13, 14, 15, 16, 17, 18, 19, 20, 21, 22, 23, 24, 25, 26, 27, 28, 29, 30, 31, 32, 33, 34, 35, 36, 37, 38, 39, 40, 41, 42, 43, 44, 45] rfl rfl
set_option maxRecDepth 20000 in
theorem gX8_scoreOf_X8_whoseOf : GoodIn wsX8_scoreOf (wsV RX8 157 RX8 yX8_whoseOf wsX8_whoseOf) := goodIn_app (goodIn_of _ (by decide +kernel)) ggX8_scoreOf_X8_whoseOf
set_option maxRecDepth 20000 in
theorem ggX8_scoreOf_X8_isOf : GoodIn wsX8_scoreOf wsX8_isOf := goodIn_r _ [14, 1, 15, 16, 5, 17, 18, 19, 20, 21, 22, 23, 24, 25, 26, 27, 28, 29, 30, 31, 32, 33, 34, 35, 36, 37, 38, 39, 40, 41, 42, 43, 44, 45] rfl rfl
set_option maxRecDepth 20000 in
theorem gX8_scoreOf_X8_isOf : GoodIn wsX8_scoreOf (wsV RX8 153 RX8 yX8_isOf wsX8_isOf) := goodIn_app (goodIn_of _ (by decide +kernel)) ggX8_scoreOf_X8_isOf
theorem dX8_scoreOf_0 : decode cX8_scoreOf 0 = .ok (.aload_n 0, 1) := by decide +kernel
theorem dX8_scoreOf_1 : decode cX8_scoreOf 1 = .ok (.getfield 7, 3) := by decide +kernel
theorem dX8_scoreOf_4 : decode cX8_scoreOf 4 = .ok (.sipush 306, 3) := by decide +kernel
theorem dX8_scoreOf_7 : decode cX8_scoreOf 7 = .ok (.iload_n 1, 1) := by decide +kernel
theorem dX8_scoreOf_8 : decode cX8_scoreOf 8 = .ok (.iadd, 1) := by decide +kernel
theorem dX8_scoreOf_9 : decode cX8_scoreOf 9 = .ok (.iaload, 1) := by decide +kernel
theorem dX8_scoreOf_10 : decode cX8_scoreOf 10 = .ok (.iconst 1, 1) := by decide +kernel
theorem dX8_scoreOf_11 : decode cX8_scoreOf 11 = .ok (.isub, 1) := by decide +kernel
theorem dX8_scoreOf_12 : decode cX8_scoreOf 12 = .ok (.istore_n 3, 1) := by decide +kernel
theorem dX8_scoreOf_13 : decode cX8_scoreOf 13 = .ok (.aload_n 0, 1) := by decide +kernel
theorem dX8_scoreOf_14 : decode cX8_scoreOf 14 = .ok (.iload_n 3, 1) := by decide +kernel
theorem dX8_scoreOf_15 : decode cX8_scoreOf 15 = .ok (.invokevirtual 157, 3) := by decide +kernel
theorem dX8_scoreOf_18 : decode cX8_scoreOf 18 = .ok (.bipush (-4), 2) := by decide +kernel
theorem dX8_scoreOf_20 : decode cX8_scoreOf 20 = .ok (.if_icmp .ne 5, 3) := by decide +kernel
theorem dX8_scoreOf_23 : decode cX8_scoreOf 23 = .ok (.iconst 0, 1) := by decide +kernel
theorem dX8_scoreOf_24 : decode cX8_scoreOf 24 = .ok (.ireturn, 1) := by decide +kernel
theorem dX8_scoreOf_25 : decode cX8_scoreOf 25 = .ok (.iconst 0, 1) := by decide +kernel
theorem dX8_scoreOf_26 : decode cX8_scoreOf 26 = .ok (.istore 4, 2) := by decide +kernel
theorem dX8_scoreOf_28 : decode cX8_scoreOf 28 = .ok (.iconst 0, 1) := by decide +kernel
theorem dX8_scoreOf_29 : decode cX8_scoreOf 29 = .ok (.istore 5, 2) := by decide +kernel
theorem dX8_scoreOf_31 : decode cX8_scoreOf 31 = .ok (.iconst 0, 1) := by decide +kernel
theorem dX8_scoreOf_32 : decode cX8_scoreOf 32 = .ok (.istore 6, 2) := by decide +kernel
theorem dX8_scoreOf_34 : decode cX8_scoreOf 34 = .ok (.iload 6, 2) := by decide +kernel
theorem dX8_scoreOf_36 : decode cX8_scoreOf 36 = .ok (.aload_n 0, 1) := by decide +kernel
theorem dX8_scoreOf_37 : decode cX8_scoreOf 37 = .ok (.getfield 7, 3) := by decide +kernel
theorem dX8_scoreOf_40 : decode cX8_scoreOf 40 = .ok (.sipush 299, 3) := by decide +kernel
theorem dX8_scoreOf_43 : decode cX8_scoreOf 43 = .ok (.iaload, 1) := by decide +kernel
theorem dX8_scoreOf_44 : decode cX8_scoreOf 44 = .ok (.if_icmp .ge 96, 3) := by decide +kernel
theorem dX8_scoreOf_47 : decode cX8_scoreOf 47 = .ok (.aload_n 0, 1) := by decide +kernel
theorem dX8_scoreOf_48 : decode cX8_scoreOf 48 = .ok (.getfield 7, 3) := by decide +kernel
theorem dX8_scoreOf_51 : decode cX8_scoreOf 51 = .ok (.sipush 264, 3) := by decide +kernel
theorem dX8_scoreOf_54 : decode cX8_scoreOf 54 = .ok (.iconst 2, 1) := by decide +kernel
theorem dX8_scoreOf_55 : decode cX8_scoreOf 55 = .ok (.iload 6, 2) := by decide +kernel
theorem dX8_scoreOf_57 : decode cX8_scoreOf 57 = .ok (.imul, 1) := by decide +kernel
theorem dX8_scoreOf_58 : decode cX8_scoreOf 58 = .ok (.iadd, 1) := by decide +kernel
theorem dX8_scoreOf_59 : decode cX8_scoreOf 59 = .ok (.iaload, 1) := by decide +kernel
theorem dX8_scoreOf_60 : decode cX8_scoreOf 60 = .ok (.iload_n 3, 1) := by decide +kernel
theorem dX8_scoreOf_61 : decode cX8_scoreOf 61 = .ok (.if_icmp .ne 7, 3) := by decide +kernel
theorem dX8_scoreOf_64 : decode cX8_scoreOf 64 = .ok (.iconst 1, 1) := by decide +kernel
theorem dX8_scoreOf_65 : decode cX8_scoreOf 65 = .ok (.goto 4, 3) := by decide +kernel
theorem dX8_scoreOf_68 : decode cX8_scoreOf 68 = .ok (.iconst 0, 1) := by decide +kernel
theorem dX8_scoreOf_69 : decode cX8_scoreOf 69 = .ok (.istore 7, 2) := by decide +kernel
theorem dX8_scoreOf_71 : decode cX8_scoreOf 71 = .ok (.iload 4, 2) := by decide +kernel
theorem dX8_scoreOf_73 : decode cX8_scoreOf 73 = .ok (.ifCond .ne 8, 3) := by decide +kernel
theorem dX8_scoreOf_76 : decode cX8_scoreOf 76 = .ok (.iload 7, 2) := by decide +kernel
theorem dX8_scoreOf_78 : decode cX8_scoreOf 78 = .ok (.ifCond .eq 7, 3) := by decide +kernel
theorem dX8_scoreOf_81 : decode cX8_scoreOf 81 = .ok (.iconst 1, 1) := by decide +kernel
theorem dX8_scoreOf_82 : decode cX8_scoreOf 82 = .ok (.goto 4, 3) := by decide +kernel
theorem dX8_scoreOf_85 : decode cX8_scoreOf 85 = .ok (.iconst 0, 1) := by decide +kernel
theorem dX8_scoreOf_86 : decode cX8_scoreOf 86 = .ok (.istore 4, 2) := by decide +kernel
theorem dX8_scoreOf_88 : decode cX8_scoreOf 88 = .ok (.iload 5, 2) := by decide +kernel
theorem dX8_scoreOf_90 : decode cX8_scoreOf 90 = .ok (.ifCond .ne 37, 3) := by decide +kernel
theorem dX8_scoreOf_93 : decode cX8_scoreOf 93 = .ok (.iload 7, 2) := by decide +kernel
theorem dX8_scoreOf_95 : decode cX8_scoreOf 95 = .ok (.ifCond .eq 36, 3) := by decide +kernel
theorem dX8_scoreOf_98 : decode cX8_scoreOf 98 = .ok (.iload_n 2, 1) := by decide +kernel
theorem dX8_scoreOf_99 : decode cX8_scoreOf 99 = .ok (.bipush (-4), 2) := by decide +kernel
theorem dX8_scoreOf_101 : decode cX8_scoreOf 101 = .ok (.if_icmp .eq 30, 3) := by decide +kernel
theorem dX8_scoreOf_104 : decode cX8_scoreOf 104 = .ok (.aload_n 0, 1) := by decide +kernel
theorem dX8_scoreOf_105 : decode cX8_scoreOf 105 = .ok (.iload_n 2, 1) := by decide +kernel
theorem dX8_scoreOf_106 : decode cX8_scoreOf 106 = .ok (.aload_n 0, 1) := by decide +kernel
theorem dX8_scoreOf_107 : decode cX8_scoreOf 107 = .ok (.getfield 7, 3) := by decide +kernel
theorem dX8_scoreOf_110 : decode cX8_scoreOf 110 = .ok (.sipush 264, 3) := by decide +kernel
theorem dX8_scoreOf_113 : decode cX8_scoreOf 113 = .ok (.iconst 2, 1) := by decide +kernel
theorem dX8_scoreOf_114 : decode cX8_scoreOf 114 = .ok (.iload 6, 2) := by decide +kernel
theorem dX8_scoreOf_116 : decode cX8_scoreOf 116 = .ok (.imul, 1) := by decide +kernel
theorem dX8_scoreOf_117 : decode cX8_scoreOf 117 = .ok (.iadd, 1) := by decide +kernel
theorem dX8_scoreOf_118 : decode cX8_scoreOf 118 = .ok (.iconst 1, 1) := by decide +kernel
theorem dX8_scoreOf_119 : decode cX8_scoreOf 119 = .ok (.iadd, 1) := by decide +kernel
theorem dX8_scoreOf_120 : decode cX8_scoreOf 120 = .ok (.iaload, 1) := by decide +kernel
theorem dX8_scoreOf_121 : decode cX8_scoreOf 121 = .ok (.invokevirtual 153, 3) := by decide +kernel
theorem dX8_scoreOf_124 : decode cX8_scoreOf 124 = .ok (.ifCond .eq 7, 3) := by decide +kernel
theorem dX8_scoreOf_127 : decode cX8_scoreOf 127 = .ok (.iconst 1, 1) := by decide +kernel
theorem dX8_scoreOf_128 : decode cX8_scoreOf 128 = .ok (.goto 4, 3) := by decide +kernel
theorem dX8_scoreOf_131 : decode cX8_scoreOf 131 = .ok (.iconst 0, 1) := by decide +kernel
theorem dX8_scoreOf_132 : decode cX8_scoreOf 132 = .ok (.istore 5, 2) := by decide +kernel
theorem dX8_scoreOf_134 : decode cX8_scoreOf 134 = .ok (.iinc 6 1, 3) := by decide +kernel
theorem dX8_scoreOf_137 : decode cX8_scoreOf 137 = .ok (.goto (-103), 3) := by decide +kernel
theorem dX8_scoreOf_140 : decode cX8_scoreOf 140 = .ok (.iconst 1, 1) := by decide +kernel
theorem dX8_scoreOf_141 : decode cX8_scoreOf 141 = .ok (.iload 4, 2) := by decide +kernel
theorem dX8_scoreOf_143 : decode cX8_scoreOf 143 = .ok (.ifCond .eq 7, 3) := by decide +kernel
theorem dX8_scoreOf_146 : decode cX8_scoreOf 146 = .ok (.iconst 2, 1) := by decide +kernel
theorem dX8_scoreOf_147 : decode cX8_scoreOf 147 = .ok (.goto 4, 3) := by decide +kernel
theorem dX8_scoreOf_150 : decode cX8_scoreOf 150 = .ok (.iconst 0, 1) := by decide +kernel
theorem dX8_scoreOf_151 : decode cX8_scoreOf 151 = .ok (.iadd, 1) := by decide +kernel
theorem dX8_scoreOf_152 : decode cX8_scoreOf 152 = .ok (.iload 5, 2) := by decide +kernel
theorem dX8_scoreOf_154 : decode cX8_scoreOf 154 = .ok (.ifCond .eq 7, 3) := by decide +kernel
theorem dX8_scoreOf_157 : decode cX8_scoreOf 157 = .ok (.iconst 4, 1) := by decide +kernel
theorem dX8_scoreOf_158 : decode cX8_scoreOf 158 = .ok (.goto 4, 3) := by decide +kernel
theorem dX8_scoreOf_161 : decode cX8_scoreOf 161 = .ok (.iconst 0, 1) := by decide +kernel
theorem dX8_scoreOf_162 : decode cX8_scoreOf 162 = .ok (.iadd, 1) := by decide +kernel
theorem dX8_scoreOf_163 : decode cX8_scoreOf 163 = .ok (.ireturn, 1) := by decide +kernel
set_option maxRecDepth 20000 in
theorem ggX8_bestOf_X8_scoreOf : GoodIn wsX8_bestOf wsX8_scoreOf := goodIn_r _ [5, 6, 7, 8, 9, 4, 10, 11, 12, 13, 14, 15, 16, 17, 18, 19, 20, 21, 22, 23, 24, 25, 26, 27, 28, 29, 30, 31, 32, 33, 34, 35, 36, 37, 38, 39, 40, 41, 42, 43, 44, 45, 46, 47, 48, 49] rfl rfl
set_option maxRecDepth 20000 in
theorem gX8_bestOf_X8_scoreOf : GoodIn wsX8_bestOf (wsV RX8 222 RX8 yX8_scoreOf wsX8_scoreOf) := goodIn_app (goodIn_of _ (by decide +kernel)) ggX8_bestOf_X8_scoreOf
theorem dX8_bestOf_0 : decode cX8_bestOf 0 = .ok (.iload_n 3, 1) := by decide +kernel
theorem dX8_bestOf_1 : decode cX8_bestOf 1 = .ok (.istore 4, 2) := by decide +kernel
theorem dX8_bestOf_3 : decode cX8_bestOf 3 = .ok (.bipush 7, 2) := by decide +kernel
theorem dX8_bestOf_5 : decode cX8_bestOf 5 = .ok (.istore 5, 2) := by decide +kernel
theorem dX8_bestOf_7 : decode cX8_bestOf 7 = .ok (.iload 5, 2) := by decide +kernel
theorem dX8_bestOf_9 : decode cX8_bestOf 9 = .ok (.ifCond .le 57, 3) := by decide +kernel
theorem dX8_bestOf_12 : decode cX8_bestOf 12 = .ok (.iload_n 1, 1) := by decide +kernel
theorem dX8_bestOf_13 : decode cX8_bestOf 13 = .ok (.istore 6, 2) := by decide +kernel
theorem dX8_bestOf_15 : decode cX8_bestOf 15 = .ok (.iload 6, 2) := by decide +kernel
theorem dX8_bestOf_17 : decode cX8_bestOf 17 = .ok (.iload_n 1, 1) := by decide +kernel
theorem dX8_bestOf_18 : decode cX8_bestOf 18 = .ok (.bipush 16, 2) := by decide +kernel
theorem dX8_bestOf_20 : decode cX8_bestOf 20 = .ok (.iadd, 1) := by decide +kernel
theorem dX8_bestOf_21 : decode cX8_bestOf 21 = .ok (.if_icmp .ge 39, 3) := by decide +kernel
theorem dX8_bestOf_24 : decode cX8_bestOf 24 = .ok (.iload 6, 2) := by decide +kernel
theorem dX8_bestOf_26 : decode cX8_bestOf 26 = .ok (.bipush 48, 2) := by decide +kernel
theorem dX8_bestOf_28 : decode cX8_bestOf 28 = .ok (.if_icmp .ge 32, 3) := by decide +kernel
theorem dX8_bestOf_31 : decode cX8_bestOf 31 = .ok (.aload_n 0, 1) := by decide +kernel
theorem dX8_bestOf_32 : decode cX8_bestOf 32 = .ok (.iload 6, 2) := by decide +kernel
theorem dX8_bestOf_34 : decode cX8_bestOf 34 = .ok (.iload_n 2, 1) := by decide +kernel
theorem dX8_bestOf_35 : decode cX8_bestOf 35 = .ok (.invokevirtual 222, 3) := by decide +kernel
theorem dX8_bestOf_38 : decode cX8_bestOf 38 = .ok (.iload 5, 2) := by decide +kernel
theorem dX8_bestOf_40 : decode cX8_bestOf 40 = .ok (.if_icmp .ne 14, 3) := by decide +kernel
theorem dX8_bestOf_43 : decode cX8_bestOf 43 = .ok (.iload 4, 2) := by decide +kernel
theorem dX8_bestOf_45 : decode cX8_bestOf 45 = .ok (.ifCond .ne 6, 3) := by decide +kernel
theorem dX8_bestOf_48 : decode cX8_bestOf 48 = .ok (.iload 6, 2) := by decide +kernel
theorem dX8_bestOf_50 : decode cX8_bestOf 50 = .ok (.ireturn, 1) := by decide +kernel
theorem dX8_bestOf_51 : decode cX8_bestOf 51 = .ok (.iinc 4 (-1), 3) := by decide +kernel
theorem dX8_bestOf_54 : decode cX8_bestOf 54 = .ok (.iinc 6 1, 3) := by decide +kernel
theorem dX8_bestOf_57 : decode cX8_bestOf 57 = .ok (.goto (-42), 3) := by decide +kernel
theorem dX8_bestOf_60 : decode cX8_bestOf 60 = .ok (.iinc 5 (-1), 3) := by decide +kernel
theorem dX8_bestOf_63 : decode cX8_bestOf 63 = .ok (.goto (-56), 3) := by decide +kernel
theorem dX8_bestOf_66 : decode cX8_bestOf 66 = .ok (.bipush (-4), 2) := by decide +kernel
theorem dX8_bestOf_68 : decode cX8_bestOf 68 = .ok (.ireturn, 1) := by decide +kernel
set_option maxRecDepth 20000 in
theorem ggX8_guess_X8_isWord : GoodIn wsX8_guess wsX8_isWord := goodIn_r _ [4, 5, 6, 7, 3, 8] rfl rfl
set_option maxRecDepth 20000 in
theorem gX8_guess_X8_isWord : GoodIn wsX8_guess (va_wsS RX8 219 yX8_isWord wsX8_isWord) := goodIn_app (goodIn_of _ (by decide +kernel)) ggX8_guess_X8_isWord
set_option maxRecDepth 20000 in
theorem ggX8_guess_X8_isRoutine : GoodIn wsX8_guess wsX8_isRoutine := goodIn_r _ [12, 13, 14, 15, 3, 16, 17, 6, 7, 8, 34, 35, 36, 37, 38, 39, 40, 41, 42, 43, 44, 45, 46, 47, 48, 49, 50, 51, 52, 53, 54, 55, 56, 57, 58, 59, 60, 61] rfl rfl
set_option maxRecDepth 20000 in
theorem gX8_guess_X8_isRoutine : GoodIn wsX8_guess (wsV RX8 176 RX8 yX8_isRoutine wsX8_isRoutine) := goodIn_app (goodIn_of _ (by decide +kernel)) ggX8_guess_X8_isRoutine
set_option maxRecDepth 20000 in
theorem ggX8_guess_X8_in : GoodIn wsX8_guess wsX8_in := goodIn_r _ [8] rfl rfl
set_option maxRecDepth 20000 in
theorem gX8_guess_X8_in : GoodIn wsX8_guess (va_wsS RX8 58 yX8_in wsX8_in) := goodIn_app (goodIn_of _ (by decide +kernel)) ggX8_guess_X8_in
set_option maxRecDepth 20000 in
theorem ggX8_guess_X8_bestOf : GoodIn wsX8_guess wsX8_bestOf := goodIn_r _ [21, 22, 23, 24, 3, 25, 17, 26, 27, 28, 29, 13, 14, 15, 16, 30, 31, 32, 33, 6, 7, 8, 34, 35, 36, 37, 38, 39, 40, 41, 42, 43, 44, 45, 46, 47, 48, 49, 50, 51, 52, 53, 54, 55, 56, 57, 58, 59, 60, 61] rfl rfl
set_option maxRecDepth 20000 in
theorem gX8_guess_X8_bestOf : GoodIn wsX8_guess (wsV RX8 225 RX8 yX8_bestOf wsX8_bestOf) := goodIn_app (goodIn_of _ (by decide +kernel)) ggX8_guess_X8_bestOf
set_option maxRecDepth 20000 in
theorem ggX8_guess_X8_scoreOf : GoodIn wsX8_guess wsX8_scoreOf := goodIn_r _ [25, 17, 26, 27, 28, 3, 29, 13, 14, 15, 16, 30, 31, 32, 33, 6, 7, 8, 34, 35, 36, 37, 38, 39, 40, 41, 42, 43, 44, 45, 46, 47, 48, 49, 50, 51, 52, 53, 54, 55, 56, 57, 58, 59, 60, 61] rfl rfl
set_option maxRecDepth 20000 in
theorem gX8_guess_X8_scoreOf : GoodIn wsX8_guess (wsV RX8 222 RX8 yX8_scoreOf wsX8_scoreOf) := goodIn_app (goodIn_of _ (by decide +kernel)) ggX8_guess_X8_scoreOf
theorem dX8_guess_0 : decode cX8_guess 0 = .ok (.iload_n 1, 1) := by decide +kernel
theorem dX8_guess_1 : decode cX8_guess 1 = .ok (.invokestatic 219, 3) := by decide +kernel
theorem dX8_guess_4 : decode cX8_guess 4 = .ok (.ifCond .eq 32, 3) := by decide +kernel
theorem dX8_guess_7 : decode cX8_guess 7 = .ok (.iload_n 2, 1) := by decide +kernel
theorem dX8_guess_8 : decode cX8_guess 8 = .ok (.bipush (-4), 2) := by decide +kernel
theorem dX8_guess_10 : decode cX8_guess 10 = .ok (.if_icmp .eq 11, 3) := by decide +kernel
theorem dX8_guess_13 : decode cX8_guess 13 = .ok (.aload_n 0, 1) := by decide +kernel
theorem dX8_guess_14 : decode cX8_guess 14 = .ok (.iload_n 2, 1) := by decide +kernel
theorem dX8_guess_15 : decode cX8_guess 15 = .ok (.invokevirtual 176, 3) := by decide +kernel
theorem dX8_guess_18 : decode cX8_guess 18 = .ok (.ifCond .eq 18, 3) := by decide +kernel
theorem dX8_guess_21 : decode cX8_guess 21 = .ok (.iload_n 3, 1) := by decide +kernel
theorem dX8_guess_22 : decode cX8_guess 22 = .ok (.ifCond .lt 14, 3) := by decide +kernel
theorem dX8_guess_25 : decode cX8_guess 25 = .ok (.iload 4, 2) := by decide +kernel
theorem dX8_guess_27 : decode cX8_guess 27 = .ok (.i2l, 1) := by decide +kernel
theorem dX8_guess_28 : decode cX8_guess 28 = .ok (.lconst 0, 1) := by decide +kernel
theorem dX8_guess_29 : decode cX8_guess 29 = .ok (.lconst 1, 1) := by decide +kernel
theorem dX8_guess_30 : decode cX8_guess 30 = .ok (.invokestatic 58, 3) := by decide +kernel
theorem dX8_guess_33 : decode cX8_guess 33 = .ok (.ifCond .ne 5, 3) := by decide +kernel
theorem dX8_guess_36 : decode cX8_guess 36 = .ok (.iconst (-1), 1) := by decide +kernel
theorem dX8_guess_37 : decode cX8_guess 37 = .ok (.ireturn, 1) := by decide +kernel
theorem dX8_guess_38 : decode cX8_guess 38 = .ok (.aload_n 0, 1) := by decide +kernel
theorem dX8_guess_39 : decode cX8_guess 39 = .ok (.iload_n 1, 1) := by decide +kernel
theorem dX8_guess_40 : decode cX8_guess 40 = .ok (.iload_n 2, 1) := by decide +kernel
theorem dX8_guess_41 : decode cX8_guess 41 = .ok (.iload_n 3, 1) := by decide +kernel
theorem dX8_guess_42 : decode cX8_guess 42 = .ok (.invokevirtual 225, 3) := by decide +kernel
theorem dX8_guess_45 : decode cX8_guess 45 = .ok (.istore 5, 2) := by decide +kernel
theorem dX8_guess_47 : decode cX8_guess 47 = .ok (.iload 5, 2) := by decide +kernel
theorem dX8_guess_49 : decode cX8_guess 49 = .ok (.bipush (-4), 2) := by decide +kernel
theorem dX8_guess_51 : decode cX8_guess 51 = .ok (.if_icmp .ne 8, 3) := by decide +kernel
theorem dX8_guess_54 : decode cX8_guess 54 = .ok (.bipush (-4), 2) := by decide +kernel
theorem dX8_guess_56 : decode cX8_guess 56 = .ok (.goto 20, 3) := by decide +kernel
theorem dX8_guess_59 : decode cX8_guess 59 = .ok (.iload 4, 2) := by decide +kernel
theorem dX8_guess_61 : decode cX8_guess 61 = .ok (.ifCond .ne 8, 3) := by decide +kernel
theorem dX8_guess_64 : decode cX8_guess 64 = .ok (.iload 5, 2) := by decide +kernel
theorem dX8_guess_66 : decode cX8_guess 66 = .ok (.goto 10, 3) := by decide +kernel
theorem dX8_guess_69 : decode cX8_guess 69 = .ok (.aload_n 0, 1) := by decide +kernel
theorem dX8_guess_70 : decode cX8_guess 70 = .ok (.iload 5, 2) := by decide +kernel
theorem dX8_guess_72 : decode cX8_guess 72 = .ok (.iload_n 2, 1) := by decide +kernel
theorem dX8_guess_73 : decode cX8_guess 73 = .ok (.invokevirtual 222, 3) := by decide +kernel
theorem dX8_guess_76 : decode cX8_guess 76 = .ok (.ireturn, 1) := by decide +kernel
set_option maxRecDepth 20000 in
theorem ggX8_stands_X8_whoseOf : GoodIn wsX8_stands wsX8_whoseOf := goodIn_r _ [10, 11, 12, 13, 9, 14, 2, 15, 16, 17, 18, 19, 20, 21, 22, 23, 24, 25, 26, 27, 28, 29, 30, 31, 32, 33, 34, 35, 36, 37, 38, 39, 40, 41, 42, 43, 44, 45, 46, 47, 48, 49] rfl rfl
set_option maxRecDepth 20000 in
theorem gX8_stands_X8_whoseOf : GoodIn wsX8_stands (wsV RX8 157 RX8 yX8_whoseOf wsX8_whoseOf) := goodIn_app (goodIn_of _ (by decide +kernel)) ggX8_stands_X8_whoseOf
theorem dX8_stands_0 : decode cX8_stands 0 = .ok (.aload_n 0, 1) := by decide +kernel
theorem dX8_stands_1 : decode cX8_stands 1 = .ok (.getfield 28, 3) := by decide +kernel
theorem dX8_stands_4 : decode cX8_stands 4 = .ok (.bipush 6, 2) := by decide +kernel
theorem dX8_stands_6 : decode cX8_stands 6 = .ok (.iload_n 1, 1) := by decide +kernel
theorem dX8_stands_7 : decode cX8_stands 7 = .ok (.imul, 1) := by decide +kernel
theorem dX8_stands_8 : decode cX8_stands 8 = .ok (.iconst 5, 1) := by decide +kernel
theorem dX8_stands_9 : decode cX8_stands 9 = .ok (.iadd, 1) := by decide +kernel
theorem dX8_stands_10 : decode cX8_stands 10 = .ok (.iaload, 1) := by decide +kernel
theorem dX8_stands_11 : decode cX8_stands 11 = .ok (.istore_n 3, 1) := by decide +kernel
theorem dX8_stands_12 : decode cX8_stands 12 = .ok (.iload_n 1, 1) := by decide +kernel
theorem dX8_stands_13 : decode cX8_stands 13 = .ok (.ifCond .le 31, 3) := by decide +kernel
theorem dX8_stands_16 : decode cX8_stands 16 = .ok (.iload_n 2, 1) := by decide +kernel
theorem dX8_stands_17 : decode cX8_stands 17 = .ok (.iconst 2, 1) := by decide +kernel
theorem dX8_stands_18 : decode cX8_stands 18 = .ok (.if_icmp .eq 22, 3) := by decide +kernel
theorem dX8_stands_21 : decode cX8_stands 21 = .ok (.aload_n 0, 1) := by decide +kernel
theorem dX8_stands_22 : decode cX8_stands 22 = .ok (.getfield 7, 3) := by decide +kernel
theorem dX8_stands_25 : decode cX8_stands 25 = .ok (.bipush 16, 2) := by decide +kernel
theorem dX8_stands_27 : decode cX8_stands 27 = .ok (.aload_n 0, 1) := by decide +kernel
theorem dX8_stands_28 : decode cX8_stands 28 = .ok (.getfield 37, 3) := by decide +kernel
theorem dX8_stands_31 : decode cX8_stands 31 = .ok (.iload_n 1, 1) := by decide +kernel
theorem dX8_stands_32 : decode cX8_stands 32 = .ok (.iconst 1, 1) := by decide +kernel
theorem dX8_stands_33 : decode cX8_stands 33 = .ok (.isub, 1) := by decide +kernel
theorem dX8_stands_34 : decode cX8_stands 34 = .ok (.iaload, 1) := by decide +kernel
theorem dX8_stands_35 : decode cX8_stands 35 = .ok (.iadd, 1) := by decide +kernel
theorem dX8_stands_36 : decode cX8_stands 36 = .ok (.iaload, 1) := by decide +kernel
theorem dX8_stands_37 : decode cX8_stands 37 = .ok (.ifCond .ne 7, 3) := by decide +kernel
theorem dX8_stands_40 : decode cX8_stands 40 = .ok (.iconst 1, 1) := by decide +kernel
theorem dX8_stands_41 : decode cX8_stands 41 = .ok (.goto 4, 3) := by decide +kernel
theorem dX8_stands_44 : decode cX8_stands 44 = .ok (.iconst 0, 1) := by decide +kernel
theorem dX8_stands_45 : decode cX8_stands 45 = .ok (.istore 4, 2) := by decide +kernel
theorem dX8_stands_47 : decode cX8_stands 47 = .ok (.aload_n 0, 1) := by decide +kernel
theorem dX8_stands_48 : decode cX8_stands 48 = .ok (.getfield 31, 3) := by decide +kernel
theorem dX8_stands_51 : decode cX8_stands 51 = .ok (.iload_n 1, 1) := by decide +kernel
theorem dX8_stands_52 : decode cX8_stands 52 = .ok (.iload_n 2, 1) := by decide +kernel
theorem dX8_stands_53 : decode cX8_stands 53 = .ok (.iastore, 1) := by decide +kernel
theorem dX8_stands_54 : decode cX8_stands 54 = .ok (.aload_n 0, 1) := by decide +kernel
theorem dX8_stands_55 : decode cX8_stands 55 = .ok (.getfield 34, 3) := by decide +kernel
theorem dX8_stands_58 : decode cX8_stands 58 = .ok (.iload_n 1, 1) := by decide +kernel
theorem dX8_stands_59 : decode cX8_stands 59 = .ok (.iload 4, 2) := by decide +kernel
theorem dX8_stands_61 : decode cX8_stands 61 = .ok (.ifCond .eq 9, 3) := by decide +kernel
theorem dX8_stands_64 : decode cX8_stands 64 = .ok (.iload_n 3, 1) := by decide +kernel
theorem dX8_stands_65 : decode cX8_stands 65 = .ok (.iconst 1, 1) := by decide +kernel
theorem dX8_stands_66 : decode cX8_stands 66 = .ok (.isub, 1) := by decide +kernel
theorem dX8_stands_67 : decode cX8_stands 67 = .ok (.goto 4, 3) := by decide +kernel
theorem dX8_stands_70 : decode cX8_stands 70 = .ok (.iload_n 3, 1) := by decide +kernel
theorem dX8_stands_71 : decode cX8_stands 71 = .ok (.iastore, 1) := by decide +kernel
theorem dX8_stands_72 : decode cX8_stands 72 = .ok (.aload_n 0, 1) := by decide +kernel
theorem dX8_stands_73 : decode cX8_stands 73 = .ok (.getfield 37, 3) := by decide +kernel
theorem dX8_stands_76 : decode cX8_stands 76 = .ok (.iload_n 1, 1) := by decide +kernel
theorem dX8_stands_77 : decode cX8_stands 77 = .ok (.aload_n 0, 1) := by decide +kernel
theorem dX8_stands_78 : decode cX8_stands 78 = .ok (.aload_n 0, 1) := by decide +kernel
theorem dX8_stands_79 : decode cX8_stands 79 = .ok (.getfield 34, 3) := by decide +kernel
theorem dX8_stands_82 : decode cX8_stands 82 = .ok (.iload_n 1, 1) := by decide +kernel
theorem dX8_stands_83 : decode cX8_stands 83 = .ok (.iaload, 1) := by decide +kernel
theorem dX8_stands_84 : decode cX8_stands 84 = .ok (.invokevirtual 157, 3) := by decide +kernel
theorem dX8_stands_87 : decode cX8_stands 87 = .ok (.iastore, 1) := by decide +kernel
theorem dX8_stands_88 : decode cX8_stands 88 = .ok (.return_, 1) := by decide +kernel
set_option maxRecDepth 20000 in
theorem ggX8_nextOf_X8_rows : GoodIn wsX8_nextOf wsX8_rows := goodIn_r _ [10, 5, 11, 12, 13, 14, 9, 15, 4, 16, 17, 18, 19, 20, 21, 22, 23, 24, 25, 26, 27, 28, 29, 30, 31, 32, 40, 41, 42, 43, 44, 45, 46, 47, 48, 49, 50, 51, 52, 53, 54, 55, 56, 57, 58, 59, 60, 61, 62, 63, 64, 65, 66, 67] rfl rfl
set_option maxRecDepth 20000 in
theorem gX8_nextOf_X8_rows : GoodIn wsX8_nextOf (wsV RX8 204 RX8 yX8_rows wsX8_rows) := goodIn_app (goodIn_of _ (by decide +kernel)) ggX8_nextOf_X8_rows
set_option maxRecDepth 20000 in
theorem ggX8_nextOf_X8_isWord : GoodIn wsX8_nextOf wsX8_isWord := goodIn_r _ [35, 36, 37, 38, 9, 39] rfl rfl
set_option maxRecDepth 20000 in
theorem gX8_nextOf_X8_isWord : GoodIn wsX8_nextOf (va_wsS RX8 219 yX8_isWord wsX8_isWord) := goodIn_app (goodIn_of _ (by decide +kernel)) ggX8_nextOf_X8_isWord
theorem dX8_nextOf_0 : decode cX8_nextOf 0 = .ok (.bipush 6, 2) := by decide +kernel
theorem dX8_nextOf_2 : decode cX8_nextOf 2 = .ok (.iload_n 1, 1) := by decide +kernel
theorem dX8_nextOf_3 : decode cX8_nextOf 3 = .ok (.imul, 1) := by decide +kernel
theorem dX8_nextOf_4 : decode cX8_nextOf 4 = .ok (.istore_n 2, 1) := by decide +kernel
theorem dX8_nextOf_5 : decode cX8_nextOf 5 = .ok (.aload_n 0, 1) := by decide +kernel
theorem dX8_nextOf_6 : decode cX8_nextOf 6 = .ok (.getfield 28, 3) := by decide +kernel
theorem dX8_nextOf_9 : decode cX8_nextOf 9 = .ok (.iload_n 2, 1) := by decide +kernel
theorem dX8_nextOf_10 : decode cX8_nextOf 10 = .ok (.iconst 5, 1) := by decide +kernel
theorem dX8_nextOf_11 : decode cX8_nextOf 11 = .ok (.iadd, 1) := by decide +kernel
theorem dX8_nextOf_12 : decode cX8_nextOf 12 = .ok (.iaload, 1) := by decide +kernel
theorem dX8_nextOf_13 : decode cX8_nextOf 13 = .ok (.ifCond .ne 5, 3) := by decide +kernel
theorem dX8_nextOf_16 : decode cX8_nextOf 16 = .ok (.iconst 0, 1) := by decide +kernel
theorem dX8_nextOf_17 : decode cX8_nextOf 17 = .ok (.ireturn, 1) := by decide +kernel
theorem dX8_nextOf_18 : decode cX8_nextOf 18 = .ok (.aload_n 0, 1) := by decide +kernel
theorem dX8_nextOf_19 : decode cX8_nextOf 19 = .ok (.getfield 37, 3) := by decide +kernel
theorem dX8_nextOf_22 : decode cX8_nextOf 22 = .ok (.iload_n 1, 1) := by decide +kernel
theorem dX8_nextOf_23 : decode cX8_nextOf 23 = .ok (.iaload, 1) := by decide +kernel
theorem dX8_nextOf_24 : decode cX8_nextOf 24 = .ok (.bipush (-4), 2) := by decide +kernel
theorem dX8_nextOf_26 : decode cX8_nextOf 26 = .ok (.if_icmp .ne 5, 3) := by decide +kernel
theorem dX8_nextOf_29 : decode cX8_nextOf 29 = .ok (.iconst 1, 1) := by decide +kernel
theorem dX8_nextOf_30 : decode cX8_nextOf 30 = .ok (.ireturn, 1) := by decide +kernel
theorem dX8_nextOf_31 : decode cX8_nextOf 31 = .ok (.aload_n 0, 1) := by decide +kernel
theorem dX8_nextOf_32 : decode cX8_nextOf 32 = .ok (.aload_n 0, 1) := by decide +kernel
theorem dX8_nextOf_33 : decode cX8_nextOf 33 = .ok (.getfield 37, 3) := by decide +kernel
theorem dX8_nextOf_36 : decode cX8_nextOf 36 = .ok (.iload_n 1, 1) := by decide +kernel
theorem dX8_nextOf_37 : decode cX8_nextOf 37 = .ok (.iaload, 1) := by decide +kernel
theorem dX8_nextOf_38 : decode cX8_nextOf 38 = .ok (.aload_n 0, 1) := by decide +kernel
theorem dX8_nextOf_39 : decode cX8_nextOf 39 = .ok (.getfield 34, 3) := by decide +kernel
theorem dX8_nextOf_42 : decode cX8_nextOf 42 = .ok (.iload_n 1, 1) := by decide +kernel
theorem dX8_nextOf_43 : decode cX8_nextOf 43 = .ok (.iaload, 1) := by decide +kernel
theorem dX8_nextOf_44 : decode cX8_nextOf 44 = .ok (.invokevirtual 204, 3) := by decide +kernel
theorem dX8_nextOf_47 : decode cX8_nextOf 47 = .ok (.aload_n 0, 1) := by decide +kernel
theorem dX8_nextOf_48 : decode cX8_nextOf 48 = .ok (.getfield 28, 3) := by decide +kernel
theorem dX8_nextOf_51 : decode cX8_nextOf 51 = .ok (.iload_n 2, 1) := by decide +kernel
theorem dX8_nextOf_52 : decode cX8_nextOf 52 = .ok (.aload_n 0, 1) := by decide +kernel
theorem dX8_nextOf_53 : decode cX8_nextOf 53 = .ok (.getfield 22, 3) := by decide +kernel
theorem dX8_nextOf_56 : decode cX8_nextOf 56 = .ok (.iconst 0, 1) := by decide +kernel
theorem dX8_nextOf_57 : decode cX8_nextOf 57 = .ok (.iaload, 1) := by decide +kernel
theorem dX8_nextOf_58 : decode cX8_nextOf 58 = .ok (.iadd, 1) := by decide +kernel
theorem dX8_nextOf_59 : decode cX8_nextOf 59 = .ok (.iaload, 1) := by decide +kernel
theorem dX8_nextOf_60 : decode cX8_nextOf 60 = .ok (.aload_n 0, 1) := by decide +kernel
theorem dX8_nextOf_61 : decode cX8_nextOf 61 = .ok (.getfield 22, 3) := by decide +kernel
theorem dX8_nextOf_64 : decode cX8_nextOf 64 = .ok (.iconst 1, 1) := by decide +kernel
theorem dX8_nextOf_65 : decode cX8_nextOf 65 = .ok (.iaload, 1) := by decide +kernel
theorem dX8_nextOf_66 : decode cX8_nextOf 66 = .ok (.iadd, 1) := by decide +kernel
theorem dX8_nextOf_67 : decode cX8_nextOf 67 = .ok (.istore_n 3, 1) := by decide +kernel
theorem dX8_nextOf_68 : decode cX8_nextOf 68 = .ok (.iload_n 3, 1) := by decide +kernel
theorem dX8_nextOf_69 : decode cX8_nextOf 69 = .ok (.aload_n 0, 1) := by decide +kernel
theorem dX8_nextOf_70 : decode cX8_nextOf 70 = .ok (.getfield 28, 3) := by decide +kernel
theorem dX8_nextOf_73 : decode cX8_nextOf 73 = .ok (.iload_n 2, 1) := by decide +kernel
theorem dX8_nextOf_74 : decode cX8_nextOf 74 = .ok (.iconst 4, 1) := by decide +kernel
theorem dX8_nextOf_75 : decode cX8_nextOf 75 = .ok (.iadd, 1) := by decide +kernel
theorem dX8_nextOf_76 : decode cX8_nextOf 76 = .ok (.iaload, 1) := by decide +kernel
theorem dX8_nextOf_77 : decode cX8_nextOf 77 = .ok (.if_icmp .gt 5, 3) := by decide +kernel
theorem dX8_nextOf_80 : decode cX8_nextOf 80 = .ok (.iconst 3, 1) := by decide +kernel
theorem dX8_nextOf_81 : decode cX8_nextOf 81 = .ok (.ireturn, 1) := by decide +kernel
theorem dX8_nextOf_82 : decode cX8_nextOf 82 = .ok (.iconst 0, 1) := by decide +kernel
theorem dX8_nextOf_83 : decode cX8_nextOf 83 = .ok (.istore 4, 2) := by decide +kernel
theorem dX8_nextOf_85 : decode cX8_nextOf 85 = .ok (.iload 4, 2) := by decide +kernel
theorem dX8_nextOf_87 : decode cX8_nextOf 87 = .ok (.bipush 6, 2) := by decide +kernel
theorem dX8_nextOf_89 : decode cX8_nextOf 89 = .ok (.if_icmp .ge 158, 3) := by decide +kernel
theorem dX8_nextOf_92 : decode cX8_nextOf 92 = .ok (.iload_n 3, 1) := by decide +kernel
theorem dX8_nextOf_93 : decode cX8_nextOf 93 = .ok (.aload_n 0, 1) := by decide +kernel
theorem dX8_nextOf_94 : decode cX8_nextOf 94 = .ok (.getfield 22, 3) := by decide +kernel
theorem dX8_nextOf_97 : decode cX8_nextOf 97 = .ok (.bipush 8, 2) := by decide +kernel
theorem dX8_nextOf_99 : decode cX8_nextOf 99 = .ok (.iload 4, 2) := by decide +kernel
theorem dX8_nextOf_101 : decode cX8_nextOf 101 = .ok (.iadd, 1) := by decide +kernel
theorem dX8_nextOf_102 : decode cX8_nextOf 102 = .ok (.iaload, 1) := by decide +kernel
theorem dX8_nextOf_103 : decode cX8_nextOf 103 = .ok (.isub, 1) := by decide +kernel
theorem dX8_nextOf_104 : decode cX8_nextOf 104 = .ok (.istore 5, 2) := by decide +kernel
theorem dX8_nextOf_106 : decode cX8_nextOf 106 = .ok (.iload 4, 2) := by decide +kernel
theorem dX8_nextOf_108 : decode cX8_nextOf 108 = .ok (.iconst 4, 1) := by decide +kernel
theorem dX8_nextOf_109 : decode cX8_nextOf 109 = .ok (.if_icmp .eq 26, 3) := by decide +kernel
theorem dX8_nextOf_112 : decode cX8_nextOf 112 = .ok (.aload_n 0, 1) := by decide +kernel
theorem dX8_nextOf_113 : decode cX8_nextOf 113 = .ok (.getfield 22, 3) := by decide +kernel
theorem dX8_nextOf_116 : decode cX8_nextOf 116 = .ok (.iconst 2, 1) := by decide +kernel
theorem dX8_nextOf_117 : decode cX8_nextOf 117 = .ok (.iload 4, 2) := by decide +kernel
theorem dX8_nextOf_119 : decode cX8_nextOf 119 = .ok (.iadd, 1) := by decide +kernel
theorem dX8_nextOf_120 : decode cX8_nextOf 120 = .ok (.iaload, 1) := by decide +kernel
theorem dX8_nextOf_121 : decode cX8_nextOf 121 = .ok (.iconst 1, 1) := by decide +kernel
theorem dX8_nextOf_122 : decode cX8_nextOf 122 = .ok (.if_icmp .ne 13, 3) := by decide +kernel
theorem dX8_nextOf_125 : decode cX8_nextOf 125 = .ok (.iload 5, 2) := by decide +kernel
theorem dX8_nextOf_127 : decode cX8_nextOf 127 = .ok (.invokestatic 219, 3) := by decide +kernel
theorem dX8_nextOf_130 : decode cX8_nextOf 130 = .ok (.ifCond .ne 5, 3) := by decide +kernel
theorem dX8_nextOf_133 : decode cX8_nextOf 133 = .ok (.iconst 2, 1) := by decide +kernel
theorem dX8_nextOf_134 : decode cX8_nextOf 134 = .ok (.ireturn, 1) := by decide +kernel
theorem dX8_nextOf_135 : decode cX8_nextOf 135 = .ok (.aload_n 0, 1) := by decide +kernel
theorem dX8_nextOf_136 : decode cX8_nextOf 136 = .ok (.getfield 22, 3) := by decide +kernel
theorem dX8_nextOf_139 : decode cX8_nextOf 139 = .ok (.iconst 2, 1) := by decide +kernel
theorem dX8_nextOf_140 : decode cX8_nextOf 140 = .ok (.iload 4, 2) := by decide +kernel
theorem dX8_nextOf_142 : decode cX8_nextOf 142 = .ok (.iadd, 1) := by decide +kernel
theorem dX8_nextOf_143 : decode cX8_nextOf 143 = .ok (.iaload, 1) := by decide +kernel
theorem dX8_nextOf_144 : decode cX8_nextOf 144 = .ok (.ifCond .ne 15, 3) := by decide +kernel
theorem dX8_nextOf_147 : decode cX8_nextOf 147 = .ok (.aload_n 0, 1) := by decide +kernel
theorem dX8_nextOf_148 : decode cX8_nextOf 148 = .ok (.getfield 28, 3) := by decide +kernel
theorem dX8_nextOf_151 : decode cX8_nextOf 151 = .ok (.iload_n 2, 1) := by decide +kernel
theorem dX8_nextOf_152 : decode cX8_nextOf 152 = .ok (.iload 4, 2) := by decide +kernel
theorem dX8_nextOf_154 : decode cX8_nextOf 154 = .ok (.iadd, 1) := by decide +kernel
theorem dX8_nextOf_155 : decode cX8_nextOf 155 = .ok (.iaload, 1) := by decide +kernel
theorem dX8_nextOf_156 : decode cX8_nextOf 156 = .ok (.goto 59, 3) := by decide +kernel
theorem dX8_nextOf_159 : decode cX8_nextOf 159 = .ok (.aload_n 0, 1) := by decide +kernel
theorem dX8_nextOf_160 : decode cX8_nextOf 160 = .ok (.getfield 22, 3) := by decide +kernel
theorem dX8_nextOf_163 : decode cX8_nextOf 163 = .ok (.iconst 2, 1) := by decide +kernel
theorem dX8_nextOf_164 : decode cX8_nextOf 164 = .ok (.iload 4, 2) := by decide +kernel
theorem dX8_nextOf_166 : decode cX8_nextOf 166 = .ok (.iadd, 1) := by decide +kernel
theorem dX8_nextOf_167 : decode cX8_nextOf 167 = .ok (.iaload, 1) := by decide +kernel
theorem dX8_nextOf_168 : decode cX8_nextOf 168 = .ok (.iconst 1, 1) := by decide +kernel
theorem dX8_nextOf_169 : decode cX8_nextOf 169 = .ok (.if_icmp .ne 29, 3) := by decide +kernel
theorem dX8_nextOf_172 : decode cX8_nextOf 172 = .ok (.aload_n 0, 1) := by decide +kernel
theorem dX8_nextOf_173 : decode cX8_nextOf 173 = .ok (.getfield 7, 3) := by decide +kernel
theorem dX8_nextOf_176 : decode cX8_nextOf 176 = .ok (.sipush 306, 3) := by decide +kernel
theorem dX8_nextOf_179 : decode cX8_nextOf 179 = .ok (.iload 5, 2) := by decide +kernel
theorem dX8_nextOf_181 : decode cX8_nextOf 181 = .ok (.invokestatic 219, 3) := by decide +kernel
theorem dX8_nextOf_184 : decode cX8_nextOf 184 = .ok (.ifCond .eq 8, 3) := by decide +kernel
theorem dX8_nextOf_187 : decode cX8_nextOf 187 = .ok (.iload 5, 2) := by decide +kernel
theorem dX8_nextOf_189 : decode cX8_nextOf 189 = .ok (.goto 4, 3) := by decide +kernel
theorem dX8_nextOf_192 : decode cX8_nextOf 192 = .ok (.iconst 0, 1) := by decide +kernel
theorem dX8_nextOf_193 : decode cX8_nextOf 193 = .ok (.iadd, 1) := by decide +kernel
theorem dX8_nextOf_194 : decode cX8_nextOf 194 = .ok (.iaload, 1) := by decide +kernel
theorem dX8_nextOf_195 : decode cX8_nextOf 195 = .ok (.goto 20, 3) := by decide +kernel
theorem dX8_nextOf_198 : decode cX8_nextOf 198 = .ok (.aload_n 0, 1) := by decide +kernel
theorem dX8_nextOf_199 : decode cX8_nextOf 199 = .ok (.getfield 28, 3) := by decide +kernel
theorem dX8_nextOf_202 : decode cX8_nextOf 202 = .ok (.iload_n 2, 1) := by decide +kernel
theorem dX8_nextOf_203 : decode cX8_nextOf 203 = .ok (.aload_n 0, 1) := by decide +kernel
theorem dX8_nextOf_204 : decode cX8_nextOf 204 = .ok (.getfield 22, 3) := by decide +kernel
theorem dX8_nextOf_207 : decode cX8_nextOf 207 = .ok (.bipush 8, 2) := by decide +kernel
theorem dX8_nextOf_209 : decode cX8_nextOf 209 = .ok (.iload 4, 2) := by decide +kernel
theorem dX8_nextOf_211 : decode cX8_nextOf 211 = .ok (.iadd, 1) := by decide +kernel
theorem dX8_nextOf_212 : decode cX8_nextOf 212 = .ok (.iaload, 1) := by decide +kernel
theorem dX8_nextOf_213 : decode cX8_nextOf 213 = .ok (.iadd, 1) := by decide +kernel
theorem dX8_nextOf_214 : decode cX8_nextOf 214 = .ok (.iaload, 1) := by decide +kernel
theorem dX8_nextOf_215 : decode cX8_nextOf 215 = .ok (.istore 6, 2) := by decide +kernel
theorem dX8_nextOf_217 : decode cX8_nextOf 217 = .ok (.aload_n 0, 1) := by decide +kernel
theorem dX8_nextOf_218 : decode cX8_nextOf 218 = .ok (.getfield 28, 3) := by decide +kernel
theorem dX8_nextOf_221 : decode cX8_nextOf 221 = .ok (.iload_n 2, 1) := by decide +kernel
theorem dX8_nextOf_222 : decode cX8_nextOf 222 = .ok (.bipush 6, 2) := by decide +kernel
theorem dX8_nextOf_224 : decode cX8_nextOf 224 = .ok (.iadd, 1) := by decide +kernel
theorem dX8_nextOf_225 : decode cX8_nextOf 225 = .ok (.iload 4, 2) := by decide +kernel
theorem dX8_nextOf_227 : decode cX8_nextOf 227 = .ok (.iadd, 1) := by decide +kernel
theorem dX8_nextOf_228 : decode cX8_nextOf 228 = .ok (.iload 4, 2) := by decide +kernel
theorem dX8_nextOf_230 : decode cX8_nextOf 230 = .ok (.iconst 4, 1) := by decide +kernel
theorem dX8_nextOf_231 : decode cX8_nextOf 231 = .ok (.if_icmp .ne 7, 3) := by decide +kernel
theorem dX8_nextOf_234 : decode cX8_nextOf 234 = .ok (.iload_n 3, 1) := by decide +kernel
theorem dX8_nextOf_235 : decode cX8_nextOf 235 = .ok (.goto 5, 3) := by decide +kernel
theorem dX8_nextOf_238 : decode cX8_nextOf 238 = .ok (.iload 6, 2) := by decide +kernel
theorem dX8_nextOf_240 : decode cX8_nextOf 240 = .ok (.iastore, 1) := by decide +kernel
theorem dX8_nextOf_241 : decode cX8_nextOf 241 = .ok (.iinc 4 1, 3) := by decide +kernel
theorem dX8_nextOf_244 : decode cX8_nextOf 244 = .ok (.goto (-159), 3) := by decide +kernel
theorem dX8_nextOf_247 : decode cX8_nextOf 247 = .ok (.bipush (-4), 2) := by decide +kernel
theorem dX8_nextOf_249 : decode cX8_nextOf 249 = .ok (.ireturn, 1) := by decide +kernel
set_option maxRecDepth 20000 in
theorem ggX8_isGuessed_X8_bestOf : GoodIn wsX8_isGuessed wsX8_bestOf := goodIn_r _ [8, 9, 10, 11, 7, 12, 3, 13, 14, 15, 16, 17, 18, 19, 20, 21, 22, 23, 24, 25, 26, 27, 28, 29, 30, 31, 32, 33, 34, 35, 36, 37, 38, 39, 40, 41, 42, 43, 44, 45, 46, 47, 48, 49, 50, 51, 52, 53, 54, 55] rfl rfl
set_option maxRecDepth 20000 in
theorem gX8_isGuessed_X8_bestOf : GoodIn wsX8_isGuessed (wsV RX8 225 RX8 yX8_bestOf wsX8_bestOf) := goodIn_app (goodIn_of _ (by decide +kernel)) ggX8_isGuessed_X8_bestOf
theorem dX8_isGuessed_0 : decode cX8_isGuessed 0 = .ok (.bipush 6, 2) := by decide +kernel
theorem dX8_isGuessed_2 : decode cX8_isGuessed 2 = .ok (.iload_n 1, 1) := by decide +kernel
theorem dX8_isGuessed_3 : decode cX8_isGuessed 3 = .ok (.imul, 1) := by decide +kernel
theorem dX8_isGuessed_4 : decode cX8_isGuessed 4 = .ok (.istore_n 2, 1) := by decide +kernel
theorem dX8_isGuessed_5 : decode cX8_isGuessed 5 = .ok (.aload_n 0, 1) := by decide +kernel
theorem dX8_isGuessed_6 : decode cX8_isGuessed 6 = .ok (.aload_n 0, 1) := by decide +kernel
theorem dX8_isGuessed_7 : decode cX8_isGuessed 7 = .ok (.getfield 28, 3) := by decide +kernel
theorem dX8_isGuessed_10 : decode cX8_isGuessed 10 = .ok (.iload_n 2, 1) := by decide +kernel
theorem dX8_isGuessed_11 : decode cX8_isGuessed 11 = .ok (.iconst 4, 1) := by decide +kernel
theorem dX8_isGuessed_12 : decode cX8_isGuessed 12 = .ok (.iadd, 1) := by decide +kernel
theorem dX8_isGuessed_13 : decode cX8_isGuessed 13 = .ok (.iaload, 1) := by decide +kernel
theorem dX8_isGuessed_14 : decode cX8_isGuessed 14 = .ok (.aload_n 0, 1) := by decide +kernel
theorem dX8_isGuessed_15 : decode cX8_isGuessed 15 = .ok (.getfield 37, 3) := by decide +kernel
theorem dX8_isGuessed_18 : decode cX8_isGuessed 18 = .ok (.iload_n 1, 1) := by decide +kernel
theorem dX8_isGuessed_19 : decode cX8_isGuessed 19 = .ok (.iaload, 1) := by decide +kernel
theorem dX8_isGuessed_20 : decode cX8_isGuessed 20 = .ok (.iconst 0, 1) := by decide +kernel
theorem dX8_isGuessed_21 : decode cX8_isGuessed 21 = .ok (.invokevirtual 225, 3) := by decide +kernel
theorem dX8_isGuessed_24 : decode cX8_isGuessed 24 = .ok (.istore_n 3, 1) := by decide +kernel
theorem dX8_isGuessed_25 : decode cX8_isGuessed 25 = .ok (.iload_n 3, 1) := by decide +kernel
theorem dX8_isGuessed_26 : decode cX8_isGuessed 26 = .ok (.bipush (-4), 2) := by decide +kernel
theorem dX8_isGuessed_28 : decode cX8_isGuessed 28 = .ok (.if_icmp .ne 5, 3) := by decide +kernel
theorem dX8_isGuessed_31 : decode cX8_isGuessed 31 = .ok (.iconst 0, 1) := by decide +kernel
theorem dX8_isGuessed_32 : decode cX8_isGuessed 32 = .ok (.ireturn, 1) := by decide +kernel
theorem dX8_isGuessed_33 : decode cX8_isGuessed 33 = .ok (.iconst 0, 1) := by decide +kernel
theorem dX8_isGuessed_34 : decode cX8_isGuessed 34 = .ok (.istore 4, 2) := by decide +kernel
theorem dX8_isGuessed_36 : decode cX8_isGuessed 36 = .ok (.iload 4, 2) := by decide +kernel
theorem dX8_isGuessed_38 : decode cX8_isGuessed 38 = .ok (.bipush 6, 2) := by decide +kernel
theorem dX8_isGuessed_40 : decode cX8_isGuessed 40 = .ok (.if_icmp .ge 61, 3) := by decide +kernel
theorem dX8_isGuessed_43 : decode cX8_isGuessed 43 = .ok (.aload_n 0, 1) := by decide +kernel
theorem dX8_isGuessed_44 : decode cX8_isGuessed 44 = .ok (.getfield 28, 3) := by decide +kernel
theorem dX8_isGuessed_47 : decode cX8_isGuessed 47 = .ok (.iload_n 2, 1) := by decide +kernel
theorem dX8_isGuessed_48 : decode cX8_isGuessed 48 = .ok (.bipush 6, 2) := by decide +kernel
theorem dX8_isGuessed_50 : decode cX8_isGuessed 50 = .ok (.iadd, 1) := by decide +kernel
theorem dX8_isGuessed_51 : decode cX8_isGuessed 51 = .ok (.iload 4, 2) := by decide +kernel
theorem dX8_isGuessed_53 : decode cX8_isGuessed 53 = .ok (.iadd, 1) := by decide +kernel
theorem dX8_isGuessed_54 : decode cX8_isGuessed 54 = .ok (.iload 4, 2) := by decide +kernel
theorem dX8_isGuessed_56 : decode cX8_isGuessed 56 = .ok (.iconst 5, 1) := by decide +kernel
theorem dX8_isGuessed_57 : decode cX8_isGuessed 57 = .ok (.if_icmp .ne 16, 3) := by decide +kernel
theorem dX8_isGuessed_60 : decode cX8_isGuessed 60 = .ok (.aload_n 0, 1) := by decide +kernel
theorem dX8_isGuessed_61 : decode cX8_isGuessed 61 = .ok (.getfield 7, 3) := by decide +kernel
theorem dX8_isGuessed_64 : decode cX8_isGuessed 64 = .ok (.sipush 306, 3) := by decide +kernel
theorem dX8_isGuessed_67 : decode cX8_isGuessed 67 = .ok (.iload_n 3, 1) := by decide +kernel
theorem dX8_isGuessed_68 : decode cX8_isGuessed 68 = .ok (.iadd, 1) := by decide +kernel
theorem dX8_isGuessed_69 : decode cX8_isGuessed 69 = .ok (.iaload, 1) := by decide +kernel
theorem dX8_isGuessed_70 : decode cX8_isGuessed 70 = .ok (.goto 24, 3) := by decide +kernel
theorem dX8_isGuessed_73 : decode cX8_isGuessed 73 = .ok (.iload 4, 2) := by decide +kernel
theorem dX8_isGuessed_75 : decode cX8_isGuessed 75 = .ok (.iconst 4, 1) := by decide +kernel
theorem dX8_isGuessed_76 : decode cX8_isGuessed 76 = .ok (.if_icmp .ne 9, 3) := by decide +kernel
theorem dX8_isGuessed_79 : decode cX8_isGuessed 79 = .ok (.iload_n 3, 1) := by decide +kernel
theorem dX8_isGuessed_80 : decode cX8_isGuessed 80 = .ok (.iconst 1, 1) := by decide +kernel
theorem dX8_isGuessed_81 : decode cX8_isGuessed 81 = .ok (.iadd, 1) := by decide +kernel
theorem dX8_isGuessed_82 : decode cX8_isGuessed 82 = .ok (.goto 12, 3) := by decide +kernel
theorem dX8_isGuessed_85 : decode cX8_isGuessed 85 = .ok (.aload_n 0, 1) := by decide +kernel
theorem dX8_isGuessed_86 : decode cX8_isGuessed 86 = .ok (.getfield 28, 3) := by decide +kernel
theorem dX8_isGuessed_89 : decode cX8_isGuessed 89 = .ok (.iload_n 2, 1) := by decide +kernel
theorem dX8_isGuessed_90 : decode cX8_isGuessed 90 = .ok (.iload 4, 2) := by decide +kernel
theorem dX8_isGuessed_92 : decode cX8_isGuessed 92 = .ok (.iadd, 1) := by decide +kernel
theorem dX8_isGuessed_93 : decode cX8_isGuessed 93 = .ok (.iaload, 1) := by decide +kernel
theorem dX8_isGuessed_94 : decode cX8_isGuessed 94 = .ok (.iastore, 1) := by decide +kernel
theorem dX8_isGuessed_95 : decode cX8_isGuessed 95 = .ok (.iinc 4 1, 3) := by decide +kernel
theorem dX8_isGuessed_98 : decode cX8_isGuessed 98 = .ok (.goto (-62), 3) := by decide +kernel
theorem dX8_isGuessed_101 : decode cX8_isGuessed 101 = .ok (.iconst 1, 1) := by decide +kernel
theorem dX8_isGuessed_102 : decode cX8_isGuessed 102 = .ok (.ireturn, 1) := by decide +kernel
set_option maxRecDepth 20000 in
theorem ggX8_walk_X8_in : GoodIn wsX8_walk wsX8_in := goodIn_r _ [9] rfl rfl
set_option maxRecDepth 20000 in
theorem gX8_walk_X8_in : GoodIn wsX8_walk (va_wsS RX8 58 yX8_in wsX8_in) := goodIn_app (goodIn_of _ (by decide +kernel)) ggX8_walk_X8_in
set_option maxRecDepth 20000 in
theorem ggX8_walk_X8_stands : GoodIn wsX8_walk wsX8_stands := goodIn_r _ [13, 1, 2, 14, 15, 16, 17, 18, 19, 8, 20, 21, 22, 23, 24, 25, 26, 27, 28, 6, 7, 9, 76, 77, 78, 79, 80, 81, 82, 83, 84, 85, 86, 87, 88, 89, 90, 91, 92, 93, 94, 95, 96, 97, 98, 99, 100, 101, 102, 103] rfl rfl
set_option maxRecDepth 20000 in
theorem gX8_walk_X8_stands : GoodIn wsX8_walk (wsV RX8 229 RX8 yX8_stands wsX8_stands) := goodIn_app (goodIn_of _ (by decide +kernel)) ggX8_walk_X8_stands
set_option maxRecDepth 20000 in
theorem ggX8_walk_X8_nextOf : GoodIn wsX8_walk wsX8_nextOf := goodIn_r _ [32, 1, 14, 16, 33, 2, 34, 35, 36, 8, 37, 38, 39, 40, 41, 42, 43, 44, 45, 46, 47, 48, 49, 50, 51, 52, 53, 54, 55, 56, 57, 58, 59, 60, 61, 62, 63, 6, 7, 9, 76, 77, 78, 79, 80, 81, 82, 83, 84, 85, 86, 87, 88, 89, 90, 91, 92, 93, 94, 95, 96, 97, 98, 99, 100, 101, 102, 103] rfl rfl
set_option maxRecDepth 20000 in
theorem gX8_walk_X8_nextOf : GoodIn wsX8_walk (wsV RX8 232 RX8 yX8_nextOf wsX8_nextOf) := goodIn_app (goodIn_of _ (by decide +kernel)) ggX8_walk_X8_nextOf
set_option maxRecDepth 20000 in
theorem ggX8_walk_X8_isGuessed : GoodIn wsX8_walk wsX8_isGuessed := goodIn_r _ [67, 1, 14, 2, 68, 69, 70, 8, 71, 72, 73, 74, 75, 17, 18, 19, 20, 21, 22, 23, 24, 25, 26, 27, 28, 6, 7, 9, 76, 77, 78, 79, 80, 81, 82, 83, 84, 85, 86, 87, 88, 89, 90, 91, 92, 93, 94, 95, 96, 97, 98, 99, 100, 101, 102, 103] rfl rfl
set_option maxRecDepth 20000 in
theorem gX8_walk_X8_isGuessed : GoodIn wsX8_walk (wsV RX8 235 RX8 yX8_isGuessed wsX8_isGuessed) := goodIn_app (goodIn_of _ (by decide +kernel)) ggX8_walk_X8_isGuessed
theorem dX8_walk_0 : decode cX8_walk 0 = .ok (.iload_n 1, 1) := by decide +kernel
theorem dX8_walk_1 : decode cX8_walk 1 = .ok (.i2l, 1) := by decide +kernel
theorem dX8_walk_2 : decode cX8_walk 2 = .ok (.lconst 0, 1) := by decide +kernel
theorem dX8_walk_3 : decode cX8_walk 3 = .ok (.lconst 1, 1) := by decide +kernel
theorem dX8_walk_4 : decode cX8_walk 4 = .ok (.invokestatic 58, 3) := by decide +kernel
theorem dX8_walk_7 : decode cX8_walk 7 = .ok (.ifCond .ne 5, 3) := by decide +kernel
theorem dX8_walk_10 : decode cX8_walk 10 = .ok (.iconst (-1), 1) := by decide +kernel
theorem dX8_walk_11 : decode cX8_walk 11 = .ok (.ireturn, 1) := by decide +kernel
theorem dX8_walk_12 : decode cX8_walk 12 = .ok (.iconst 0, 1) := by decide +kernel
theorem dX8_walk_13 : decode cX8_walk 13 = .ok (.istore_n 2, 1) := by decide +kernel
theorem dX8_walk_14 : decode cX8_walk 14 = .ok (.iload_n 2, 1) := by decide +kernel
theorem dX8_walk_15 : decode cX8_walk 15 = .ok (.bipush 6, 2) := by decide +kernel
theorem dX8_walk_17 : decode cX8_walk 17 = .ok (.if_icmp .ge 25, 3) := by decide +kernel
theorem dX8_walk_20 : decode cX8_walk 20 = .ok (.aload_n 0, 1) := by decide +kernel
theorem dX8_walk_21 : decode cX8_walk 21 = .ok (.getfield 28, 3) := by decide +kernel
theorem dX8_walk_24 : decode cX8_walk 24 = .ok (.iload_n 2, 1) := by decide +kernel
theorem dX8_walk_25 : decode cX8_walk 25 = .ok (.aload_n 0, 1) := by decide +kernel
theorem dX8_walk_26 : decode cX8_walk 26 = .ok (.getfield 7, 3) := by decide +kernel
theorem dX8_walk_29 : decode cX8_walk 29 = .ok (.sipush 300, 3) := by decide +kernel
theorem dX8_walk_32 : decode cX8_walk 32 = .ok (.iload_n 2, 1) := by decide +kernel
theorem dX8_walk_33 : decode cX8_walk 33 = .ok (.iadd, 1) := by decide +kernel
theorem dX8_walk_34 : decode cX8_walk 34 = .ok (.iaload, 1) := by decide +kernel
theorem dX8_walk_35 : decode cX8_walk 35 = .ok (.iastore, 1) := by decide +kernel
theorem dX8_walk_36 : decode cX8_walk 36 = .ok (.iinc 2 1, 3) := by decide +kernel
theorem dX8_walk_39 : decode cX8_walk 39 = .ok (.goto (-25), 3) := by decide +kernel
theorem dX8_walk_42 : decode cX8_walk 42 = .ok (.aload_n 0, 1) := by decide +kernel
theorem dX8_walk_43 : decode cX8_walk 43 = .ok (.iconst 0, 1) := by decide +kernel
theorem dX8_walk_44 : decode cX8_walk 44 = .ok (.iconst 0, 1) := by decide +kernel
theorem dX8_walk_45 : decode cX8_walk 45 = .ok (.invokevirtual 229, 3) := by decide +kernel
theorem dX8_walk_48 : decode cX8_walk 48 = .ok (.aload_n 0, 1) := by decide +kernel
theorem dX8_walk_49 : decode cX8_walk 49 = .ok (.iconst 1, 1) := by decide +kernel
theorem dX8_walk_50 : decode cX8_walk 50 = .ok (.putfield 160, 3) := by decide +kernel
theorem dX8_walk_53 : decode cX8_walk 53 = .ok (.aload_n 0, 1) := by decide +kernel
theorem dX8_walk_54 : decode cX8_walk 54 = .ok (.bipush (-4), 2) := by decide +kernel
theorem dX8_walk_56 : decode cX8_walk 56 = .ok (.putfield 167, 3) := by decide +kernel
theorem dX8_walk_59 : decode cX8_walk 59 = .ok (.aload_n 0, 1) := by decide +kernel
theorem dX8_walk_60 : decode cX8_walk 60 = .ok (.getfield 167, 3) := by decide +kernel
theorem dX8_walk_63 : decode cX8_walk 63 = .ok (.bipush (-4), 2) := by decide +kernel
theorem dX8_walk_65 : decode cX8_walk 65 = .ok (.if_icmp .ne 98, 3) := by decide +kernel
theorem dX8_walk_68 : decode cX8_walk 68 = .ok (.aload_n 0, 1) := by decide +kernel
theorem dX8_walk_69 : decode cX8_walk 69 = .ok (.aload_n 0, 1) := by decide +kernel
theorem dX8_walk_70 : decode cX8_walk 70 = .ok (.getfield 160, 3) := by decide +kernel
theorem dX8_walk_73 : decode cX8_walk 73 = .ok (.iconst 1, 1) := by decide +kernel
theorem dX8_walk_74 : decode cX8_walk 74 = .ok (.isub, 1) := by decide +kernel
theorem dX8_walk_75 : decode cX8_walk 75 = .ok (.invokevirtual 232, 3) := by decide +kernel
theorem dX8_walk_78 : decode cX8_walk 78 = .ok (.istore_n 2, 1) := by decide +kernel
theorem dX8_walk_79 : decode cX8_walk 79 = .ok (.iconst 1, 1) := by decide +kernel
theorem dX8_walk_80 : decode cX8_walk 80 = .ok (.istore_n 3, 1) := by decide +kernel
theorem dX8_walk_81 : decode cX8_walk 81 = .ok (.iload_n 2, 1) := by decide +kernel
theorem dX8_walk_82 : decode cX8_walk 82 = .ok (.ifCond .le 26, 3) := by decide +kernel
theorem dX8_walk_85 : decode cX8_walk 85 = .ok (.iload_n 1, 1) := by decide +kernel
theorem dX8_walk_86 : decode cX8_walk 86 = .ok (.iconst 1, 1) := by decide +kernel
theorem dX8_walk_87 : decode cX8_walk 87 = .ok (.if_icmp .ne 21, 3) := by decide +kernel
theorem dX8_walk_90 : decode cX8_walk 90 = .ok (.aload_n 0, 1) := by decide +kernel
theorem dX8_walk_91 : decode cX8_walk 91 = .ok (.aload_n 0, 1) := by decide +kernel
theorem dX8_walk_92 : decode cX8_walk 92 = .ok (.getfield 160, 3) := by decide +kernel
theorem dX8_walk_95 : decode cX8_walk 95 = .ok (.iconst 1, 1) := by decide +kernel
theorem dX8_walk_96 : decode cX8_walk 96 = .ok (.isub, 1) := by decide +kernel
theorem dX8_walk_97 : decode cX8_walk 97 = .ok (.invokevirtual 235, 3) := by decide +kernel
theorem dX8_walk_100 : decode cX8_walk 100 = .ok (.ifCond .eq 8, 3) := by decide +kernel
theorem dX8_walk_103 : decode cX8_walk 103 = .ok (.bipush (-4), 2) := by decide +kernel
theorem dX8_walk_105 : decode cX8_walk 105 = .ok (.istore_n 2, 1) := by decide +kernel
theorem dX8_walk_106 : decode cX8_walk 106 = .ok (.iconst 2, 1) := by decide +kernel
theorem dX8_walk_107 : decode cX8_walk 107 = .ok (.istore_n 3, 1) := by decide +kernel
theorem dX8_walk_108 : decode cX8_walk 108 = .ok (.aload_n 0, 1) := by decide +kernel
theorem dX8_walk_109 : decode cX8_walk 109 = .ok (.iload_n 2, 1) := by decide +kernel
theorem dX8_walk_110 : decode cX8_walk 110 = .ok (.bipush (-4), 2) := by decide +kernel
theorem dX8_walk_112 : decode cX8_walk 112 = .ok (.if_icmp .ne 16, 3) := by decide +kernel
theorem dX8_walk_115 : decode cX8_walk 115 = .ok (.aload_n 0, 1) := by decide +kernel
theorem dX8_walk_116 : decode cX8_walk 116 = .ok (.getfield 160, 3) := by decide +kernel
theorem dX8_walk_119 : decode cX8_walk 119 = .ok (.bipush 20, 2) := by decide +kernel
theorem dX8_walk_121 : decode cX8_walk 121 = .ok (.if_icmp .ne 7, 3) := by decide +kernel
theorem dX8_walk_124 : decode cX8_walk 124 = .ok (.iconst 4, 1) := by decide +kernel
theorem dX8_walk_125 : decode cX8_walk 125 = .ok (.goto 4, 3) := by decide +kernel
theorem dX8_walk_128 : decode cX8_walk 128 = .ok (.iload_n 2, 1) := by decide +kernel
theorem dX8_walk_129 : decode cX8_walk 129 = .ok (.putfield 167, 3) := by decide +kernel
theorem dX8_walk_132 : decode cX8_walk 132 = .ok (.aload_n 0, 1) := by decide +kernel
theorem dX8_walk_133 : decode cX8_walk 133 = .ok (.getfield 167, 3) := by decide +kernel
theorem dX8_walk_136 : decode cX8_walk 136 = .ok (.bipush (-4), 2) := by decide +kernel
theorem dX8_walk_138 : decode cX8_walk 138 = .ok (.if_icmp .ne 22, 3) := by decide +kernel
theorem dX8_walk_141 : decode cX8_walk 141 = .ok (.aload_n 0, 1) := by decide +kernel
theorem dX8_walk_142 : decode cX8_walk 142 = .ok (.aload_n 0, 1) := by decide +kernel
theorem dX8_walk_143 : decode cX8_walk 143 = .ok (.getfield 160, 3) := by decide +kernel
theorem dX8_walk_146 : decode cX8_walk 146 = .ok (.iload_n 3, 1) := by decide +kernel
theorem dX8_walk_147 : decode cX8_walk 147 = .ok (.invokevirtual 229, 3) := by decide +kernel
theorem dX8_walk_150 : decode cX8_walk 150 = .ok (.aload_n 0, 1) := by decide +kernel
theorem dX8_walk_151 : decode cX8_walk 151 = .ok (.dup, 1) := by decide +kernel
theorem dX8_walk_152 : decode cX8_walk 152 = .ok (.getfield 160, 3) := by decide +kernel
theorem dX8_walk_155 : decode cX8_walk 155 = .ok (.iconst 1, 1) := by decide +kernel
theorem dX8_walk_156 : decode cX8_walk 156 = .ok (.iadd, 1) := by decide +kernel
theorem dX8_walk_157 : decode cX8_walk 157 = .ok (.putfield 160, 3) := by decide +kernel
theorem dX8_walk_160 : decode cX8_walk 160 = .ok (.goto (-101), 3) := by decide +kernel
theorem dX8_walk_163 : decode cX8_walk 163 = .ok (.aload_n 0, 1) := by decide +kernel
theorem dX8_walk_164 : decode cX8_walk 164 = .ok (.iconst 1, 1) := by decide +kernel
theorem dX8_walk_165 : decode cX8_walk 165 = .ok (.putfield 146, 3) := by decide +kernel
theorem dX8_walk_168 : decode cX8_walk 168 = .ok (.aload_n 0, 1) := by decide +kernel
theorem dX8_walk_169 : decode cX8_walk 169 = .ok (.getfield 160, 3) := by decide +kernel
theorem dX8_walk_172 : decode cX8_walk 172 = .ok (.ireturn, 1) := by decide +kernel
set_option maxRecDepth 20000 in
theorem ggX8_isFrame_X8_in : GoodIn wsX8_isFrame wsX8_in := goodIn_r _ [6] rfl rfl
set_option maxRecDepth 20000 in
theorem gX8_isFrame_X8_in : GoodIn wsX8_isFrame (va_wsS RX8 58 yX8_in wsX8_in) := goodIn_app (goodIn_of _ (by decide +kernel)) ggX8_isFrame_X8_in
theorem dX8_isFrame_0 : decode cX8_isFrame 0 = .ok (.aload_n 0, 1) := by decide +kernel
theorem dX8_isFrame_1 : decode cX8_isFrame 1 = .ok (.getfield 146, 3) := by decide +kernel
theorem dX8_isFrame_4 : decode cX8_isFrame 4 = .ok (.ifCond .eq 23, 3) := by decide +kernel
theorem dX8_isFrame_7 : decode cX8_isFrame 7 = .ok (.iload_n 1, 1) := by decide +kernel
theorem dX8_isFrame_8 : decode cX8_isFrame 8 = .ok (.i2l, 1) := by decide +kernel
theorem dX8_isFrame_9 : decode cX8_isFrame 9 = .ok (.lconst 0, 1) := by decide +kernel
theorem dX8_isFrame_10 : decode cX8_isFrame 10 = .ok (.aload_n 0, 1) := by decide +kernel
theorem dX8_isFrame_11 : decode cX8_isFrame 11 = .ok (.getfield 160, 3) := by decide +kernel
theorem dX8_isFrame_14 : decode cX8_isFrame 14 = .ok (.iconst 1, 1) := by decide +kernel
theorem dX8_isFrame_15 : decode cX8_isFrame 15 = .ok (.isub, 1) := by decide +kernel
theorem dX8_isFrame_16 : decode cX8_isFrame 16 = .ok (.i2l, 1) := by decide +kernel
theorem dX8_isFrame_17 : decode cX8_isFrame 17 = .ok (.invokestatic 58, 3) := by decide +kernel
theorem dX8_isFrame_20 : decode cX8_isFrame 20 = .ok (.ifCond .eq 7, 3) := by decide +kernel
theorem dX8_isFrame_23 : decode cX8_isFrame 23 = .ok (.iconst 1, 1) := by decide +kernel
theorem dX8_isFrame_24 : decode cX8_isFrame 24 = .ok (.goto 4, 3) := by decide +kernel
theorem dX8_isFrame_27 : decode cX8_isFrame 27 = .ok (.iconst 0, 1) := by decide +kernel
theorem dX8_isFrame_28 : decode cX8_isFrame 28 = .ok (.ireturn, 1) := by decide +kernel
set_option maxRecDepth 20000 in
theorem ggX8_frame_X8_isFrame : GoodIn wsX8_frame wsX8_isFrame := goodIn_r _ [6, 7, 8, 9, 10, 5, 11, 16, 17, 18, 19, 20, 21, 22, 23, 24, 25, 26, 27, 28, 29, 30, 31, 32, 33, 34, 35, 36, 37, 38, 39, 40, 41, 42, 43] rfl rfl
set_option maxRecDepth 20000 in
theorem gX8_frame_X8_isFrame : GoodIn wsX8_frame (wsV RX8 238 RX8 yX8_isFrame wsX8_isFrame) := goodIn_app (goodIn_of _ (by decide +kernel)) ggX8_frame_X8_isFrame
set_option maxRecDepth 20000 in
theorem ggX8_frame_X8_isRegister : GoodIn wsX8_frame wsX8_isRegister := goodIn_r _ [14, 15, 9, 10, 5, 11] rfl rfl
set_option maxRecDepth 20000 in
theorem gX8_frame_X8_isRegister : GoodIn wsX8_frame (va_wsS RX8 212 yX8_isRegister wsX8_isRegister) := goodIn_app (goodIn_of _ (by decide +kernel)) ggX8_frame_X8_isRegister
theorem dX8_frame_0 : decode cX8_frame 0 = .ok (.aload_n 0, 1) := by decide +kernel
theorem dX8_frame_1 : decode cX8_frame 1 = .ok (.iload_n 1, 1) := by decide +kernel
theorem dX8_frame_2 : decode cX8_frame 2 = .ok (.invokevirtual 238, 3) := by decide +kernel
theorem dX8_frame_5 : decode cX8_frame 5 = .ok (.ifCond .eq 24, 3) := by decide +kernel
theorem dX8_frame_8 : decode cX8_frame 8 = .ok (.iload_n 2, 1) := by decide +kernel
theorem dX8_frame_9 : decode cX8_frame 9 = .ok (.invokestatic 212, 3) := by decide +kernel
theorem dX8_frame_12 : decode cX8_frame 12 = .ok (.ifCond .eq 17, 3) := by decide +kernel
theorem dX8_frame_15 : decode cX8_frame 15 = .ok (.aload_n 0, 1) := by decide +kernel
theorem dX8_frame_16 : decode cX8_frame 16 = .ok (.getfield 28, 3) := by decide +kernel
theorem dX8_frame_19 : decode cX8_frame 19 = .ok (.bipush 6, 2) := by decide +kernel
theorem dX8_frame_21 : decode cX8_frame 21 = .ok (.iload_n 1, 1) := by decide +kernel
theorem dX8_frame_22 : decode cX8_frame 22 = .ok (.imul, 1) := by decide +kernel
theorem dX8_frame_23 : decode cX8_frame 23 = .ok (.iload_n 2, 1) := by decide +kernel
theorem dX8_frame_24 : decode cX8_frame 24 = .ok (.iadd, 1) := by decide +kernel
theorem dX8_frame_25 : decode cX8_frame 25 = .ok (.iaload, 1) := by decide +kernel
theorem dX8_frame_26 : decode cX8_frame 26 = .ok (.goto 4, 3) := by decide +kernel
theorem dX8_frame_29 : decode cX8_frame 29 = .ok (.iconst (-1), 1) := by decide +kernel
theorem dX8_frame_30 : decode cX8_frame 30 = .ok (.ireturn, 1) := by decide +kernel
set_option maxRecDepth 20000 in
theorem ggX8_came_X8_isFrame : GoodIn wsX8_came wsX8_isFrame := goodIn_r _ [9, 10, 11, 12, 13, 8, 14, 15, 16, 17, 18, 19, 20, 21, 22, 23, 24, 25, 26, 27, 28, 29, 30, 31, 32, 33, 34, 35, 36, 37, 38, 39, 40, 41, 42] rfl rfl
set_option maxRecDepth 20000 in
theorem gX8_came_X8_isFrame : GoodIn wsX8_came (wsV RX8 238 RX8 yX8_isFrame wsX8_isFrame) := goodIn_app (goodIn_of _ (by decide +kernel)) ggX8_came_X8_isFrame
set_option maxRecDepth 20000 in
theorem ggX8_came_X8_in : GoodIn wsX8_came wsX8_in := goodIn_r _ [14] rfl rfl
set_option maxRecDepth 20000 in
theorem gX8_came_X8_in : GoodIn wsX8_came (va_wsS RX8 58 yX8_in wsX8_in) := goodIn_app (goodIn_of _ (by decide +kernel)) ggX8_came_X8_in
theorem dX8_came_0 : decode cX8_came 0 = .ok (.aload_n 0, 1) := by decide +kernel
theorem dX8_came_1 : decode cX8_came 1 = .ok (.iload_n 1, 1) := by decide +kernel
theorem dX8_came_2 : decode cX8_came 2 = .ok (.invokevirtual 238, 3) := by decide +kernel
theorem dX8_came_5 : decode cX8_came 5 = .ok (.ifCond .eq 15, 3) := by decide +kernel
theorem dX8_came_8 : decode cX8_came 8 = .ok (.iload_n 2, 1) := by decide +kernel
theorem dX8_came_9 : decode cX8_came 9 = .ok (.i2l, 1) := by decide +kernel
theorem dX8_came_10 : decode cX8_came 10 = .ok (.lconst 0, 1) := by decide +kernel
theorem dX8_came_11 : decode cX8_came 11 = .ok (.ldc2_w 123, 3) := by decide +kernel
theorem dX8_came_14 : decode cX8_came 14 = .ok (.invokestatic 58, 3) := by decide +kernel
theorem dX8_came_17 : decode cX8_came 17 = .ok (.ifCond .ne 5, 3) := by decide +kernel
theorem dX8_came_20 : decode cX8_came 20 = .ok (.iconst (-1), 1) := by decide +kernel
theorem dX8_came_21 : decode cX8_came 21 = .ok (.ireturn, 1) := by decide +kernel
theorem dX8_came_22 : decode cX8_came 22 = .ok (.iload_n 2, 1) := by decide +kernel
theorem dX8_came_23 : decode cX8_came 23 = .ok (.ifCond .ne 12, 3) := by decide +kernel
theorem dX8_came_26 : decode cX8_came 26 = .ok (.aload_n 0, 1) := by decide +kernel
theorem dX8_came_27 : decode cX8_came 27 = .ok (.getfield 37, 3) := by decide +kernel
theorem dX8_came_30 : decode cX8_came 30 = .ok (.iload_n 1, 1) := by decide +kernel
theorem dX8_came_31 : decode cX8_came 31 = .ok (.iaload, 1) := by decide +kernel
theorem dX8_came_32 : decode cX8_came 32 = .ok (.goto 23, 3) := by decide +kernel
theorem dX8_came_35 : decode cX8_came 35 = .ok (.iload_n 2, 1) := by decide +kernel
theorem dX8_came_36 : decode cX8_came 36 = .ok (.iconst 1, 1) := by decide +kernel
theorem dX8_came_37 : decode cX8_came 37 = .ok (.if_icmp .ne 12, 3) := by decide +kernel
theorem dX8_came_40 : decode cX8_came 40 = .ok (.aload_n 0, 1) := by decide +kernel
theorem dX8_came_41 : decode cX8_came 41 = .ok (.getfield 34, 3) := by decide +kernel
theorem dX8_came_44 : decode cX8_came 44 = .ok (.iload_n 1, 1) := by decide +kernel
theorem dX8_came_45 : decode cX8_came 45 = .ok (.iaload, 1) := by decide +kernel
theorem dX8_came_46 : decode cX8_came 46 = .ok (.goto 9, 3) := by decide +kernel
theorem dX8_came_49 : decode cX8_came 49 = .ok (.aload_n 0, 1) := by decide +kernel
theorem dX8_came_50 : decode cX8_came 50 = .ok (.getfield 31, 3) := by decide +kernel
theorem dX8_came_53 : decode cX8_came 53 = .ok (.iload_n 1, 1) := by decide +kernel
theorem dX8_came_54 : decode cX8_came 54 = .ok (.iaload, 1) := by decide +kernel
theorem dX8_came_55 : decode cX8_came 55 = .ok (.ireturn, 1) := by decide +kernel
set_option maxRecDepth 20000 in
theorem ggX8_isLandingOf_X8_in : GoodIn wsX8_isLandingOf wsX8_in := goodIn_r _ [7] rfl rfl
set_option maxRecDepth 20000 in
theorem gX8_isLandingOf_X8_in : GoodIn wsX8_isLandingOf (va_wsS RX8 58 yX8_in wsX8_in) := goodIn_app (goodIn_of _ (by decide +kernel)) ggX8_isLandingOf_X8_in
theorem dX8_isLandingOf_0 : decode cX8_isLandingOf 0 = .ok (.sipush 184, 3) := by decide +kernel
theorem dX8_isLandingOf_3 : decode cX8_isLandingOf 3 = .ok (.iconst 5, 1) := by decide +kernel
theorem dX8_isLandingOf_4 : decode cX8_isLandingOf 4 = .ok (.iload_n 2, 1) := by decide +kernel
theorem dX8_isLandingOf_5 : decode cX8_isLandingOf 5 = .ok (.imul, 1) := by decide +kernel
theorem dX8_isLandingOf_6 : decode cX8_isLandingOf 6 = .ok (.iadd, 1) := by decide +kernel
theorem dX8_isLandingOf_7 : decode cX8_isLandingOf 7 = .ok (.istore_n 3, 1) := by decide +kernel
theorem dX8_isLandingOf_8 : decode cX8_isLandingOf 8 = .ok (.aload_n 0, 1) := by decide +kernel
theorem dX8_isLandingOf_9 : decode cX8_isLandingOf 9 = .ok (.getfield 7, 3) := by decide +kernel
theorem dX8_isLandingOf_12 : decode cX8_isLandingOf 12 = .ok (.iload_n 3, 1) := by decide +kernel
theorem dX8_isLandingOf_13 : decode cX8_isLandingOf 13 = .ok (.iconst 4, 1) := by decide +kernel
theorem dX8_isLandingOf_14 : decode cX8_isLandingOf 14 = .ok (.iadd, 1) := by decide +kernel
theorem dX8_isLandingOf_15 : decode cX8_isLandingOf 15 = .ok (.iaload, 1) := by decide +kernel
theorem dX8_isLandingOf_16 : decode cX8_isLandingOf 16 = .ok (.aload_n 0, 1) := by decide +kernel
theorem dX8_isLandingOf_17 : decode cX8_isLandingOf 17 = .ok (.getfield 37, 3) := by decide +kernel
theorem dX8_isLandingOf_20 : decode cX8_isLandingOf 20 = .ok (.iload_n 1, 1) := by decide +kernel
theorem dX8_isLandingOf_21 : decode cX8_isLandingOf 21 = .ok (.iaload, 1) := by decide +kernel
theorem dX8_isLandingOf_22 : decode cX8_isLandingOf 22 = .ok (.if_icmp .ne 36, 3) := by decide +kernel
theorem dX8_isLandingOf_25 : decode cX8_isLandingOf 25 = .ok (.aload_n 0, 1) := by decide +kernel
theorem dX8_isLandingOf_26 : decode cX8_isLandingOf 26 = .ok (.getfield 34, 3) := by decide +kernel
theorem dX8_isLandingOf_29 : decode cX8_isLandingOf 29 = .ok (.iload_n 1, 1) := by decide +kernel
theorem dX8_isLandingOf_30 : decode cX8_isLandingOf 30 = .ok (.iaload, 1) := by decide +kernel
theorem dX8_isLandingOf_31 : decode cX8_isLandingOf 31 = .ok (.i2l, 1) := by decide +kernel
theorem dX8_isLandingOf_32 : decode cX8_isLandingOf 32 = .ok (.aload_n 0, 1) := by decide +kernel
theorem dX8_isLandingOf_33 : decode cX8_isLandingOf 33 = .ok (.getfield 7, 3) := by decide +kernel
theorem dX8_isLandingOf_36 : decode cX8_isLandingOf 36 = .ok (.iload_n 3, 1) := by decide +kernel
theorem dX8_isLandingOf_37 : decode cX8_isLandingOf 37 = .ok (.iaload, 1) := by decide +kernel
theorem dX8_isLandingOf_38 : decode cX8_isLandingOf 38 = .ok (.i2l, 1) := by decide +kernel
theorem dX8_isLandingOf_39 : decode cX8_isLandingOf 39 = .ok (.aload_n 0, 1) := by decide +kernel
theorem dX8_isLandingOf_40 : decode cX8_isLandingOf 40 = .ok (.getfield 7, 3) := by decide +kernel
theorem dX8_isLandingOf_43 : decode cX8_isLandingOf 43 = .ok (.iload_n 3, 1) := by decide +kernel
theorem dX8_isLandingOf_44 : decode cX8_isLandingOf 44 = .ok (.iconst 1, 1) := by decide +kernel
theorem dX8_isLandingOf_45 : decode cX8_isLandingOf 45 = .ok (.iadd, 1) := by decide +kernel
theorem dX8_isLandingOf_46 : decode cX8_isLandingOf 46 = .ok (.iaload, 1) := by decide +kernel
theorem dX8_isLandingOf_47 : decode cX8_isLandingOf 47 = .ok (.i2l, 1) := by decide +kernel
theorem dX8_isLandingOf_48 : decode cX8_isLandingOf 48 = .ok (.invokestatic 58, 3) := by decide +kernel
theorem dX8_isLandingOf_51 : decode cX8_isLandingOf 51 = .ok (.ifCond .eq 7, 3) := by decide +kernel
theorem dX8_isLandingOf_54 : decode cX8_isLandingOf 54 = .ok (.iconst 1, 1) := by decide +kernel
theorem dX8_isLandingOf_55 : decode cX8_isLandingOf 55 = .ok (.goto 4, 3) := by decide +kernel
theorem dX8_isLandingOf_58 : decode cX8_isLandingOf 58 = .ok (.iconst 0, 1) := by decide +kernel
theorem dX8_isLandingOf_59 : decode cX8_isLandingOf 59 = .ok (.ireturn, 1) := by decide +kernel
set_option maxRecDepth 20000 in
theorem ggX8_catches_X8_isLandingOf : GoodIn wsX8_catches wsX8_isLandingOf := goodIn_r _ [6, 1, 7, 8, 9, 10, 5, 11, 12, 13, 14, 15, 16, 17, 18, 19, 20, 21, 22, 23, 24, 25, 26, 27, 28, 29, 30, 31, 32, 33, 34, 35, 36, 37, 38, 39] rfl rfl
set_option maxRecDepth 20000 in
theorem gX8_catches_X8_isLandingOf : GoodIn wsX8_catches (wsV RX8 241 RX8 yX8_isLandingOf wsX8_isLandingOf) := goodIn_app (goodIn_of _ (by decide +kernel)) ggX8_catches_X8_isLandingOf
theorem dX8_catches_0 : decode cX8_catches 0 = .ok (.iconst 0, 1) := by decide +kernel
theorem dX8_catches_1 : decode cX8_catches 1 = .ok (.istore_n 3, 1) := by decide +kernel
theorem dX8_catches_2 : decode cX8_catches 2 = .ok (.iload_n 3, 1) := by decide +kernel
theorem dX8_catches_3 : decode cX8_catches 3 = .ok (.aload_n 0, 1) := by decide +kernel
theorem dX8_catches_4 : decode cX8_catches 4 = .ok (.getfield 7, 3) := by decide +kernel
theorem dX8_catches_7 : decode cX8_catches 7 = .ok (.sipush 298, 3) := by decide +kernel
theorem dX8_catches_10 : decode cX8_catches 10 = .ok (.iaload, 1) := by decide +kernel
theorem dX8_catches_11 : decode cX8_catches 11 = .ok (.if_icmp .ge 49, 3) := by decide +kernel
theorem dX8_catches_14 : decode cX8_catches 14 = .ok (.aload_n 0, 1) := by decide +kernel
theorem dX8_catches_15 : decode cX8_catches 15 = .ok (.getfield 7, 3) := by decide +kernel
theorem dX8_catches_18 : decode cX8_catches 18 = .ok (.sipush 184, 3) := by decide +kernel
theorem dX8_catches_21 : decode cX8_catches 21 = .ok (.iconst 5, 1) := by decide +kernel
theorem dX8_catches_22 : decode cX8_catches 22 = .ok (.iload_n 3, 1) := by decide +kernel
theorem dX8_catches_23 : decode cX8_catches 23 = .ok (.imul, 1) := by decide +kernel
theorem dX8_catches_24 : decode cX8_catches 24 = .ok (.iadd, 1) := by decide +kernel
theorem dX8_catches_25 : decode cX8_catches 25 = .ok (.iconst 2, 1) := by decide +kernel
theorem dX8_catches_26 : decode cX8_catches 26 = .ok (.iadd, 1) := by decide +kernel
theorem dX8_catches_27 : decode cX8_catches 27 = .ok (.iaload, 1) := by decide +kernel
theorem dX8_catches_28 : decode cX8_catches 28 = .ok (.istore 4, 2) := by decide +kernel
theorem dX8_catches_30 : decode cX8_catches 30 = .ok (.aload_n 0, 1) := by decide +kernel
theorem dX8_catches_31 : decode cX8_catches 31 = .ok (.iload_n 1, 1) := by decide +kernel
theorem dX8_catches_32 : decode cX8_catches 32 = .ok (.iload_n 3, 1) := by decide +kernel
theorem dX8_catches_33 : decode cX8_catches 33 = .ok (.invokevirtual 241, 3) := by decide +kernel
theorem dX8_catches_36 : decode cX8_catches 36 = .ok (.ifCond .eq 18, 3) := by decide +kernel
theorem dX8_catches_39 : decode cX8_catches 39 = .ok (.iload 4, 2) := by decide +kernel
theorem dX8_catches_41 : decode cX8_catches 41 = .ok (.iload_n 2, 1) := by decide +kernel
theorem dX8_catches_42 : decode cX8_catches 42 = .ok (.if_icmp .eq 10, 3) := by decide +kernel
theorem dX8_catches_45 : decode cX8_catches 45 = .ok (.iload 4, 2) := by decide +kernel
theorem dX8_catches_47 : decode cX8_catches 47 = .ok (.bipush 10, 2) := by decide +kernel
theorem dX8_catches_49 : decode cX8_catches 49 = .ok (.if_icmp .ne 5, 3) := by decide +kernel
theorem dX8_catches_52 : decode cX8_catches 52 = .ok (.iload_n 3, 1) := by decide +kernel
theorem dX8_catches_53 : decode cX8_catches 53 = .ok (.ireturn, 1) := by decide +kernel
theorem dX8_catches_54 : decode cX8_catches 54 = .ok (.iinc 3 1, 3) := by decide +kernel
theorem dX8_catches_57 : decode cX8_catches 57 = .ok (.goto (-55), 3) := by decide +kernel
theorem dX8_catches_60 : decode cX8_catches 60 = .ok (.bipush (-4), 2) := by decide +kernel
theorem dX8_catches_62 : decode cX8_catches 62 = .ok (.ireturn, 1) := by decide +kernel
set_option maxRecDepth 20000 in
theorem ggX8_catcher_X8_catches : GoodIn wsX8_catcher wsX8_catches := goodIn_r _ [6, 7, 8, 9, 10, 5, 11, 12, 13, 14, 15, 16, 17, 18, 19, 20, 21, 22, 23, 24, 25, 26, 27, 28, 29, 30, 31, 32, 33, 34, 35, 36, 37, 38, 39, 40, 41, 42, 43, 44] rfl rfl
set_option maxRecDepth 20000 in
theorem gX8_catcher_X8_catches : GoodIn wsX8_catcher (wsV RX8 244 RX8 yX8_catches wsX8_catches) := goodIn_app (goodIn_of _ (by decide +kernel)) ggX8_catcher_X8_catches
theorem dX8_catcher_0 : decode cX8_catcher 0 = .ok (.iconst 0, 1) := by decide +kernel
theorem dX8_catcher_1 : decode cX8_catcher 1 = .ok (.istore_n 2, 1) := by decide +kernel
theorem dX8_catcher_2 : decode cX8_catcher 2 = .ok (.iload_n 2, 1) := by decide +kernel
theorem dX8_catcher_3 : decode cX8_catcher 3 = .ok (.aload_n 0, 1) := by decide +kernel
theorem dX8_catcher_4 : decode cX8_catcher 4 = .ok (.getfield 160, 3) := by decide +kernel
theorem dX8_catcher_7 : decode cX8_catcher 7 = .ok (.if_icmp .ge 22, 3) := by decide +kernel
theorem dX8_catcher_10 : decode cX8_catcher 10 = .ok (.aload_n 0, 1) := by decide +kernel
theorem dX8_catcher_11 : decode cX8_catcher 11 = .ok (.iload_n 2, 1) := by decide +kernel
theorem dX8_catcher_12 : decode cX8_catcher 12 = .ok (.iload_n 1, 1) := by decide +kernel
theorem dX8_catcher_13 : decode cX8_catcher 13 = .ok (.invokevirtual 244, 3) := by decide +kernel
theorem dX8_catcher_16 : decode cX8_catcher 16 = .ok (.bipush (-4), 2) := by decide +kernel
theorem dX8_catcher_18 : decode cX8_catcher 18 = .ok (.if_icmp .eq 5, 3) := by decide +kernel
theorem dX8_catcher_21 : decode cX8_catcher 21 = .ok (.iload_n 2, 1) := by decide +kernel
theorem dX8_catcher_22 : decode cX8_catcher 22 = .ok (.ireturn, 1) := by decide +kernel
theorem dX8_catcher_23 : decode cX8_catcher 23 = .ok (.iinc 2 1, 3) := by decide +kernel
theorem dX8_catcher_26 : decode cX8_catcher 26 = .ok (.goto (-24), 3) := by decide +kernel
theorem dX8_catcher_29 : decode cX8_catcher 29 = .ok (.bipush (-4), 2) := by decide +kernel
theorem dX8_catcher_31 : decode cX8_catcher 31 = .ok (.ireturn, 1) := by decide +kernel
set_option maxRecDepth 20000 in
theorem ggX8_caught_X8_in : GoodIn wsX8_caught wsX8_in := goodIn_r _ [6] rfl rfl
set_option maxRecDepth 20000 in
theorem gX8_caught_X8_in : GoodIn wsX8_caught (va_wsS RX8 58 yX8_in wsX8_in) := goodIn_app (goodIn_of _ (by decide +kernel)) ggX8_caught_X8_in
set_option maxRecDepth 20000 in
theorem ggX8_caught_X8_catcher : GoodIn wsX8_caught wsX8_catcher := goodIn_r _ [10, 11, 12, 13, 14, 5, 15, 16, 17, 18, 19, 20, 21, 22, 3, 4, 6, 23, 24, 25, 26, 27, 28, 29, 30, 31, 32, 33, 34, 35, 36, 37, 38, 39, 40, 41, 42, 43, 44, 45, 46, 47, 48, 49, 50] rfl rfl
set_option maxRecDepth 20000 in
theorem gX8_caught_X8_catcher : GoodIn wsX8_caught (wsV RX8 247 RX8 yX8_catcher wsX8_catcher) := goodIn_app (goodIn_of _ (by decide +kernel)) ggX8_caught_X8_catcher
set_option maxRecDepth 20000 in
theorem ggX8_caught_X8_catches : GoodIn wsX8_caught wsX8_catches := goodIn_r _ [15, 16, 17, 18, 19, 5, 20, 21, 22, 3, 4, 6, 23, 24, 25, 26, 27, 28, 29, 30, 31, 32, 33, 34, 35, 36, 37, 38, 39, 40, 41, 42, 43, 44, 45, 46, 47, 48, 49, 50] rfl rfl
set_option maxRecDepth 20000 in
theorem gX8_caught_X8_catches : GoodIn wsX8_caught (wsV RX8 244 RX8 yX8_catches wsX8_catches) := goodIn_app (goodIn_of _ (by decide +kernel)) ggX8_caught_X8_catches
theorem dX8_caught_0 : decode cX8_caught 0 = .ok (.iload_n 1, 1) := by decide +kernel
theorem dX8_caught_1 : decode cX8_caught 1 = .ok (.i2l, 1) := by decide +kernel
theorem dX8_caught_2 : decode cX8_caught 2 = .ok (.lconst 1, 1) := by decide +kernel
theorem dX8_caught_3 : decode cX8_caught 3 = .ok (.ldc2_w 125, 3) := by decide +kernel
theorem dX8_caught_6 : decode cX8_caught 6 = .ok (.invokestatic 58, 3) := by decide +kernel
theorem dX8_caught_9 : decode cX8_caught 9 = .ok (.ifCond .eq 13, 3) := by decide +kernel
theorem dX8_caught_12 : decode cX8_caught 12 = .ok (.iload_n 2, 1) := by decide +kernel
theorem dX8_caught_13 : decode cX8_caught 13 = .ok (.i2l, 1) := by decide +kernel
theorem dX8_caught_14 : decode cX8_caught 14 = .ok (.lconst 0, 1) := by decide +kernel
theorem dX8_caught_15 : decode cX8_caught 15 = .ok (.lconst 1, 1) := by decide +kernel
theorem dX8_caught_16 : decode cX8_caught 16 = .ok (.invokestatic 58, 3) := by decide +kernel
theorem dX8_caught_19 : decode cX8_caught 19 = .ok (.ifCond .ne 5, 3) := by decide +kernel
theorem dX8_caught_22 : decode cX8_caught 22 = .ok (.iconst (-1), 1) := by decide +kernel
theorem dX8_caught_23 : decode cX8_caught 23 = .ok (.ireturn, 1) := by decide +kernel
theorem dX8_caught_24 : decode cX8_caught 24 = .ok (.aload_n 0, 1) := by decide +kernel
theorem dX8_caught_25 : decode cX8_caught 25 = .ok (.getfield 146, 3) := by decide +kernel
theorem dX8_caught_28 : decode cX8_caught 28 = .ok (.ifCond .ne 6, 3) := by decide +kernel
theorem dX8_caught_31 : decode cX8_caught 31 = .ok (.bipush (-2), 2) := by decide +kernel
theorem dX8_caught_33 : decode cX8_caught 33 = .ok (.ireturn, 1) := by decide +kernel
theorem dX8_caught_34 : decode cX8_caught 34 = .ok (.aload_n 0, 1) := by decide +kernel
theorem dX8_caught_35 : decode cX8_caught 35 = .ok (.iload_n 1, 1) := by decide +kernel
theorem dX8_caught_36 : decode cX8_caught 36 = .ok (.invokevirtual 247, 3) := by decide +kernel
theorem dX8_caught_39 : decode cX8_caught 39 = .ok (.istore_n 3, 1) := by decide +kernel
theorem dX8_caught_40 : decode cX8_caught 40 = .ok (.iload_n 3, 1) := by decide +kernel
theorem dX8_caught_41 : decode cX8_caught 41 = .ok (.bipush (-4), 2) := by decide +kernel
theorem dX8_caught_43 : decode cX8_caught 43 = .ok (.if_icmp .ne 8, 3) := by decide +kernel
theorem dX8_caught_46 : decode cX8_caught 46 = .ok (.bipush (-4), 2) := by decide +kernel
theorem dX8_caught_48 : decode cX8_caught 48 = .ok (.goto 17, 3) := by decide +kernel
theorem dX8_caught_51 : decode cX8_caught 51 = .ok (.iload_n 2, 1) := by decide +kernel
theorem dX8_caught_52 : decode cX8_caught 52 = .ok (.ifCond .ne 7, 3) := by decide +kernel
theorem dX8_caught_55 : decode cX8_caught 55 = .ok (.iload_n 3, 1) := by decide +kernel
theorem dX8_caught_56 : decode cX8_caught 56 = .ok (.goto 9, 3) := by decide +kernel
theorem dX8_caught_59 : decode cX8_caught 59 = .ok (.aload_n 0, 1) := by decide +kernel
theorem dX8_caught_60 : decode cX8_caught 60 = .ok (.iload_n 3, 1) := by decide +kernel
theorem dX8_caught_61 : decode cX8_caught 61 = .ok (.iload_n 1, 1) := by decide +kernel
theorem dX8_caught_62 : decode cX8_caught 62 = .ok (.invokevirtual 244, 3) := by decide +kernel
theorem dX8_caught_65 : decode cX8_caught 65 = .ok (.ireturn, 1) := by decide +kernel
set_option maxRecDepth 20000 in
theorem ggX8_cleaned_X8_in : GoodIn wsX8_cleaned wsX8_in := goodIn_r _ [7] rfl rfl
set_option maxRecDepth 20000 in
theorem gX8_cleaned_X8_in : GoodIn wsX8_cleaned (va_wsS RX8 58 yX8_in wsX8_in) := goodIn_app (goodIn_of _ (by decide +kernel)) ggX8_cleaned_X8_in
set_option maxRecDepth 20000 in
theorem ggX8_cleaned_X8_catcher : GoodIn wsX8_cleaned wsX8_catcher := goodIn_r _ [11, 12, 13, 14, 15, 6, 16, 3, 17, 18, 19, 20, 21, 22, 4, 5, 7, 23, 24, 25, 26, 27, 28, 29, 30, 31, 32, 33, 34, 35, 36, 37, 38, 39, 40, 41, 42, 43, 44, 45, 46, 47, 48, 49, 50] rfl rfl
set_option maxRecDepth 20000 in
theorem gX8_cleaned_X8_catcher : GoodIn wsX8_cleaned (wsV RX8 247 RX8 yX8_catcher wsX8_catcher) := goodIn_app (goodIn_of _ (by decide +kernel)) ggX8_cleaned_X8_catcher
set_option maxRecDepth 20000 in
theorem ggX8_cleaned_X8_isLandingOf : GoodIn wsX8_cleaned wsX8_isLandingOf := goodIn_r _ [20, 3, 21, 22, 4, 5, 6, 7, 23, 24, 25, 26, 27, 28, 29, 30, 31, 32, 33, 34, 35, 36, 37, 38, 39, 40, 41, 42, 43, 44, 45, 46, 47, 48, 49, 50] rfl rfl
set_option maxRecDepth 20000 in
theorem gX8_cleaned_X8_isLandingOf : GoodIn wsX8_cleaned (wsV RX8 241 RX8 yX8_isLandingOf wsX8_isLandingOf) := goodIn_app (goodIn_of _ (by decide +kernel)) ggX8_cleaned_X8_isLandingOf
theorem dX8_cleaned_0 : decode cX8_cleaned 0 = .ok (.iload_n 1, 1) := by decide +kernel
theorem dX8_cleaned_1 : decode cX8_cleaned 1 = .ok (.i2l, 1) := by decide +kernel
theorem dX8_cleaned_2 : decode cX8_cleaned 2 = .ok (.lconst 1, 1) := by decide +kernel
theorem dX8_cleaned_3 : decode cX8_cleaned 3 = .ok (.ldc2_w 125, 3) := by decide +kernel
theorem dX8_cleaned_6 : decode cX8_cleaned 6 = .ok (.invokestatic 58, 3) := by decide +kernel
theorem dX8_cleaned_9 : decode cX8_cleaned 9 = .ok (.ifCond .eq 7, 3) := by decide +kernel
theorem dX8_cleaned_12 : decode cX8_cleaned 12 = .ok (.iload_n 2, 1) := by decide +kernel
theorem dX8_cleaned_13 : decode cX8_cleaned 13 = .ok (.ifCond .ge 5, 3) := by decide +kernel
theorem dX8_cleaned_16 : decode cX8_cleaned 16 = .ok (.iconst (-1), 1) := by decide +kernel
theorem dX8_cleaned_17 : decode cX8_cleaned 17 = .ok (.ireturn, 1) := by decide +kernel
theorem dX8_cleaned_18 : decode cX8_cleaned 18 = .ok (.aload_n 0, 1) := by decide +kernel
theorem dX8_cleaned_19 : decode cX8_cleaned 19 = .ok (.getfield 146, 3) := by decide +kernel
theorem dX8_cleaned_22 : decode cX8_cleaned 22 = .ok (.ifCond .ne 6, 3) := by decide +kernel
theorem dX8_cleaned_25 : decode cX8_cleaned 25 = .ok (.bipush (-2), 2) := by decide +kernel
theorem dX8_cleaned_27 : decode cX8_cleaned 27 = .ok (.ireturn, 1) := by decide +kernel
theorem dX8_cleaned_28 : decode cX8_cleaned 28 = .ok (.aload_n 0, 1) := by decide +kernel
theorem dX8_cleaned_29 : decode cX8_cleaned 29 = .ok (.iload_n 1, 1) := by decide +kernel
theorem dX8_cleaned_30 : decode cX8_cleaned 30 = .ok (.invokevirtual 247, 3) := by decide +kernel
theorem dX8_cleaned_33 : decode cX8_cleaned 33 = .ok (.istore_n 3, 1) := by decide +kernel
theorem dX8_cleaned_34 : decode cX8_cleaned 34 = .ok (.iload_n 2, 1) := by decide +kernel
theorem dX8_cleaned_35 : decode cX8_cleaned 35 = .ok (.istore 4, 2) := by decide +kernel
theorem dX8_cleaned_37 : decode cX8_cleaned 37 = .ok (.iconst 0, 1) := by decide +kernel
theorem dX8_cleaned_38 : decode cX8_cleaned 38 = .ok (.istore 5, 2) := by decide +kernel
theorem dX8_cleaned_40 : decode cX8_cleaned 40 = .ok (.iload 5, 2) := by decide +kernel
theorem dX8_cleaned_42 : decode cX8_cleaned 42 = .ok (.iload_n 3, 1) := by decide +kernel
theorem dX8_cleaned_43 : decode cX8_cleaned 43 = .ok (.if_icmp .ge 77, 3) := by decide +kernel
theorem dX8_cleaned_46 : decode cX8_cleaned 46 = .ok (.iconst 0, 1) := by decide +kernel
theorem dX8_cleaned_47 : decode cX8_cleaned 47 = .ok (.istore 6, 2) := by decide +kernel
theorem dX8_cleaned_49 : decode cX8_cleaned 49 = .ok (.iload 6, 2) := by decide +kernel
theorem dX8_cleaned_51 : decode cX8_cleaned 51 = .ok (.aload_n 0, 1) := by decide +kernel
theorem dX8_cleaned_52 : decode cX8_cleaned 52 = .ok (.getfield 7, 3) := by decide +kernel
theorem dX8_cleaned_55 : decode cX8_cleaned 55 = .ok (.sipush 298, 3) := by decide +kernel
theorem dX8_cleaned_58 : decode cX8_cleaned 58 = .ok (.iaload, 1) := by decide +kernel
theorem dX8_cleaned_59 : decode cX8_cleaned 59 = .ok (.if_icmp .ge 55, 3) := by decide +kernel
theorem dX8_cleaned_62 : decode cX8_cleaned 62 = .ok (.aload_n 0, 1) := by decide +kernel
theorem dX8_cleaned_63 : decode cX8_cleaned 63 = .ok (.iload 5, 2) := by decide +kernel
theorem dX8_cleaned_65 : decode cX8_cleaned 65 = .ok (.iload 6, 2) := by decide +kernel
theorem dX8_cleaned_67 : decode cX8_cleaned 67 = .ok (.invokevirtual 241, 3) := by decide +kernel
theorem dX8_cleaned_70 : decode cX8_cleaned 70 = .ok (.ifCond .eq 38, 3) := by decide +kernel
theorem dX8_cleaned_73 : decode cX8_cleaned 73 = .ok (.aload_n 0, 1) := by decide +kernel
theorem dX8_cleaned_74 : decode cX8_cleaned 74 = .ok (.getfield 7, 3) := by decide +kernel
theorem dX8_cleaned_77 : decode cX8_cleaned 77 = .ok (.sipush 184, 3) := by decide +kernel
theorem dX8_cleaned_80 : decode cX8_cleaned 80 = .ok (.iconst 5, 1) := by decide +kernel
theorem dX8_cleaned_81 : decode cX8_cleaned 81 = .ok (.iload 6, 2) := by decide +kernel
theorem dX8_cleaned_83 : decode cX8_cleaned 83 = .ok (.imul, 1) := by decide +kernel
theorem dX8_cleaned_84 : decode cX8_cleaned 84 = .ok (.iadd, 1) := by decide +kernel
theorem dX8_cleaned_85 : decode cX8_cleaned 85 = .ok (.iconst 2, 1) := by decide +kernel
theorem dX8_cleaned_86 : decode cX8_cleaned 86 = .ok (.iadd, 1) := by decide +kernel
theorem dX8_cleaned_87 : decode cX8_cleaned 87 = .ok (.iaload, 1) := by decide +kernel
theorem dX8_cleaned_88 : decode cX8_cleaned 88 = .ok (.ifCond .ne 20, 3) := by decide +kernel
theorem dX8_cleaned_91 : decode cX8_cleaned 91 = .ok (.iload 4, 2) := by decide +kernel
theorem dX8_cleaned_93 : decode cX8_cleaned 93 = .ok (.ifCond .ne 12, 3) := by decide +kernel
theorem dX8_cleaned_96 : decode cX8_cleaned 96 = .ok (.bipush 100, 2) := by decide +kernel
theorem dX8_cleaned_98 : decode cX8_cleaned 98 = .ok (.iload 5, 2) := by decide +kernel
theorem dX8_cleaned_100 : decode cX8_cleaned 100 = .ok (.imul, 1) := by decide +kernel
theorem dX8_cleaned_101 : decode cX8_cleaned 101 = .ok (.iload 6, 2) := by decide +kernel
theorem dX8_cleaned_103 : decode cX8_cleaned 103 = .ok (.iadd, 1) := by decide +kernel
theorem dX8_cleaned_104 : decode cX8_cleaned 104 = .ok (.ireturn, 1) := by decide +kernel
theorem dX8_cleaned_105 : decode cX8_cleaned 105 = .ok (.iinc 4 (-1), 3) := by decide +kernel
theorem dX8_cleaned_108 : decode cX8_cleaned 108 = .ok (.iinc 6 1, 3) := by decide +kernel
theorem dX8_cleaned_111 : decode cX8_cleaned 111 = .ok (.goto (-62), 3) := by decide +kernel
theorem dX8_cleaned_114 : decode cX8_cleaned 114 = .ok (.iinc 5 1, 3) := by decide +kernel
theorem dX8_cleaned_117 : decode cX8_cleaned 117 = .ok (.goto (-77), 3) := by decide +kernel
theorem dX8_cleaned_120 : decode cX8_cleaned 120 = .ok (.bipush (-4), 2) := by decide +kernel
theorem dX8_cleaned_122 : decode cX8_cleaned 122 = .ok (.ireturn, 1) := by decide +kernel
set_option maxRecDepth 20000 in
theorem ggX8_move_X8_isRoutine : GoodIn wsX8_move wsX8_isRoutine := goodIn_r _ [7, 8, 9, 10, 6, 11, 2, 12, 13, 14, 19, 20, 21, 22, 23, 24, 25, 26, 27, 28, 29, 30, 31, 32, 33, 34, 35, 36, 37, 38, 39, 40, 41, 42, 43, 44, 45, 46] rfl rfl
set_option maxRecDepth 20000 in
theorem gX8_move_X8_isRoutine : GoodIn wsX8_move (wsV RX8 176 RX8 yX8_isRoutine wsX8_isRoutine) := goodIn_app (goodIn_of _ (by decide +kernel)) ggX8_move_X8_isRoutine
set_option maxRecDepth 20000 in
theorem ggX8_move_X8_in : GoodIn wsX8_move wsX8_in := goodIn_r _ [14] rfl rfl
set_option maxRecDepth 20000 in
theorem gX8_move_X8_in : GoodIn wsX8_move (va_wsS RX8 58 yX8_in wsX8_in) := goodIn_app (goodIn_of _ (by decide +kernel)) ggX8_move_X8_in
set_option maxRecDepth 20000 in
theorem ggX8_move_X8_isApart : GoodIn wsX8_move wsX8_isApart := goodIn_r _ [18, 2, 19, 20, 21, 22, 23, 24, 25, 26, 27, 28, 29, 30, 31, 32, 33, 34, 35, 36, 37, 38, 39, 40, 41, 42, 43, 44, 45, 46] rfl rfl
set_option maxRecDepth 20000 in
theorem gX8_move_X8_isApart : GoodIn wsX8_move (wsV RX8 139 RX8 yX8_isApart wsX8_isApart) := goodIn_app (goodIn_of _ (by decide +kernel)) ggX8_move_X8_isApart
theorem dX8_move_0 : decode cX8_move 0 = .ok (.aload_n 0, 1) := by decide +kernel
theorem dX8_move_1 : decode cX8_move 1 = .ok (.iload_n 1, 1) := by decide +kernel
theorem dX8_move_2 : decode cX8_move 2 = .ok (.invokevirtual 176, 3) := by decide +kernel
theorem dX8_move_5 : decode cX8_move 5 = .ok (.ifCond .eq 25, 3) := by decide +kernel
theorem dX8_move_8 : decode cX8_move 8 = .ok (.iload_n 2, 1) := by decide +kernel
theorem dX8_move_9 : decode cX8_move 9 = .ok (.i2l, 1) := by decide +kernel
theorem dX8_move_10 : decode cX8_move 10 = .ok (.lconst 0, 1) := by decide +kernel
theorem dX8_move_11 : decode cX8_move 11 = .ok (.lconst 1, 1) := by decide +kernel
theorem dX8_move_12 : decode cX8_move 12 = .ok (.invokestatic 58, 3) := by decide +kernel
theorem dX8_move_15 : decode cX8_move 15 = .ok (.ifCond .eq 15, 3) := by decide +kernel
theorem dX8_move_18 : decode cX8_move 18 = .ok (.iload_n 3, 1) := by decide +kernel
theorem dX8_move_19 : decode cX8_move 19 = .ok (.i2l, 1) := by decide +kernel
theorem dX8_move_20 : decode cX8_move 20 = .ok (.lconst 0, 1) := by decide +kernel
theorem dX8_move_21 : decode cX8_move 21 = .ok (.ldc2_w 250, 3) := by decide +kernel
theorem dX8_move_24 : decode cX8_move 24 = .ok (.invokestatic 58, 3) := by decide +kernel
theorem dX8_move_27 : decode cX8_move 27 = .ok (.ifCond .ne 5, 3) := by decide +kernel
theorem dX8_move_30 : decode cX8_move 30 = .ok (.iconst (-1), 1) := by decide +kernel
theorem dX8_move_31 : decode cX8_move 31 = .ok (.ireturn, 1) := by decide +kernel
theorem dX8_move_32 : decode cX8_move 32 = .ok (.iload_n 2, 1) := by decide +kernel
theorem dX8_move_33 : decode cX8_move 33 = .ok (.ifCond .ne 19, 3) := by decide +kernel
theorem dX8_move_36 : decode cX8_move 36 = .ok (.iload_n 3, 1) := by decide +kernel
theorem dX8_move_37 : decode cX8_move 37 = .ok (.aload_n 0, 1) := by decide +kernel
theorem dX8_move_38 : decode cX8_move 38 = .ok (.getfield 7, 3) := by decide +kernel
theorem dX8_move_41 : decode cX8_move 41 = .ok (.bipush 8, 2) := by decide +kernel
theorem dX8_move_43 : decode cX8_move 43 = .ok (.iload_n 1, 1) := by decide +kernel
theorem dX8_move_44 : decode cX8_move 44 = .ok (.iadd, 1) := by decide +kernel
theorem dX8_move_45 : decode cX8_move 45 = .ok (.iaload, 1) := by decide +kernel
theorem dX8_move_46 : decode cX8_move 46 = .ok (.if_icmp .le 18, 3) := by decide +kernel
theorem dX8_move_49 : decode cX8_move 49 = .ok (.goto 13, 3) := by decide +kernel
theorem dX8_move_52 : decode cX8_move 52 = .ok (.iload_n 3, 1) := by decide +kernel
theorem dX8_move_53 : decode cX8_move 53 = .ok (.aload_n 0, 1) := by decide +kernel
theorem dX8_move_54 : decode cX8_move 54 = .ok (.getfield 7, 3) := by decide +kernel
theorem dX8_move_57 : decode cX8_move 57 = .ok (.iload_n 1, 1) := by decide +kernel
theorem dX8_move_58 : decode cX8_move 58 = .ok (.iaload, 1) := by decide +kernel
theorem dX8_move_59 : decode cX8_move 59 = .ok (.if_icmp .ge 5, 3) := by decide +kernel
theorem dX8_move_62 : decode cX8_move 62 = .ok (.iconst (-1), 1) := by decide +kernel
theorem dX8_move_63 : decode cX8_move 63 = .ok (.ireturn, 1) := by decide +kernel
theorem dX8_move_64 : decode cX8_move 64 = .ok (.aload_n 0, 1) := by decide +kernel
theorem dX8_move_65 : decode cX8_move 65 = .ok (.getfield 7, 3) := by decide +kernel
theorem dX8_move_68 : decode cX8_move 68 = .ok (.bipush 8, 2) := by decide +kernel
theorem dX8_move_70 : decode cX8_move 70 = .ok (.iload_n 2, 1) := by decide +kernel
theorem dX8_move_71 : decode cX8_move 71 = .ok (.imul, 1) := by decide +kernel
theorem dX8_move_72 : decode cX8_move 72 = .ok (.iload_n 1, 1) := by decide +kernel
theorem dX8_move_73 : decode cX8_move 73 = .ok (.iadd, 1) := by decide +kernel
theorem dX8_move_74 : decode cX8_move 74 = .ok (.iaload, 1) := by decide +kernel
theorem dX8_move_75 : decode cX8_move 75 = .ok (.istore 4, 2) := by decide +kernel
theorem dX8_move_77 : decode cX8_move 77 = .ok (.aload_n 0, 1) := by decide +kernel
theorem dX8_move_78 : decode cX8_move 78 = .ok (.getfield 7, 3) := by decide +kernel
theorem dX8_move_81 : decode cX8_move 81 = .ok (.bipush 8, 2) := by decide +kernel
theorem dX8_move_83 : decode cX8_move 83 = .ok (.iload_n 2, 1) := by decide +kernel
theorem dX8_move_84 : decode cX8_move 84 = .ok (.imul, 1) := by decide +kernel
theorem dX8_move_85 : decode cX8_move 85 = .ok (.iload_n 1, 1) := by decide +kernel
theorem dX8_move_86 : decode cX8_move 86 = .ok (.iadd, 1) := by decide +kernel
theorem dX8_move_87 : decode cX8_move 87 = .ok (.iload_n 3, 1) := by decide +kernel
theorem dX8_move_88 : decode cX8_move 88 = .ok (.iastore, 1) := by decide +kernel
theorem dX8_move_89 : decode cX8_move 89 = .ok (.aload_n 0, 1) := by decide +kernel
theorem dX8_move_90 : decode cX8_move 90 = .ok (.iconst 0, 1) := by decide +kernel
theorem dX8_move_91 : decode cX8_move 91 = .ok (.invokevirtual 139, 3) := by decide +kernel
theorem dX8_move_94 : decode cX8_move 94 = .ok (.ifCond .ne 19, 3) := by decide +kernel
theorem dX8_move_97 : decode cX8_move 97 = .ok (.aload_n 0, 1) := by decide +kernel
theorem dX8_move_98 : decode cX8_move 98 = .ok (.getfield 7, 3) := by decide +kernel
theorem dX8_move_101 : decode cX8_move 101 = .ok (.bipush 8, 2) := by decide +kernel
theorem dX8_move_103 : decode cX8_move 103 = .ok (.iload_n 2, 1) := by decide +kernel
theorem dX8_move_104 : decode cX8_move 104 = .ok (.imul, 1) := by decide +kernel
theorem dX8_move_105 : decode cX8_move 105 = .ok (.iload_n 1, 1) := by decide +kernel
theorem dX8_move_106 : decode cX8_move 106 = .ok (.iadd, 1) := by decide +kernel
theorem dX8_move_107 : decode cX8_move 107 = .ok (.iload 4, 2) := by decide +kernel
theorem dX8_move_109 : decode cX8_move 109 = .ok (.iastore, 1) := by decide +kernel
theorem dX8_move_110 : decode cX8_move 110 = .ok (.bipush (-2), 2) := by decide +kernel
theorem dX8_move_112 : decode cX8_move 112 = .ok (.ireturn, 1) := by decide +kernel
theorem dX8_move_113 : decode cX8_move 113 = .ok (.iload 4, 2) := by decide +kernel
theorem dX8_move_115 : decode cX8_move 115 = .ok (.ireturn, 1) := by decide +kernel
set_option maxRecDepth 20000 in
theorem ggX8_alter_X8_in : GoodIn wsX8_alter wsX8_in := goodIn_r _ [7] rfl rfl
set_option maxRecDepth 20000 in
theorem gX8_alter_X8_in : GoodIn wsX8_alter (va_wsS RX8 58 yX8_in wsX8_in) := goodIn_app (goodIn_of _ (by decide +kernel)) ggX8_alter_X8_in
set_option maxRecDepth 20000 in
theorem ggX8_alter_X8_isRegister : GoodIn wsX8_alter wsX8_isRegister := goodIn_r _ [10, 11, 4, 5, 6, 7] rfl rfl
set_option maxRecDepth 20000 in
theorem gX8_alter_X8_isRegister : GoodIn wsX8_alter (va_wsS RX8 212 yX8_isRegister wsX8_isRegister) := goodIn_app (goodIn_of _ (by decide +kernel)) ggX8_alter_X8_isRegister
theorem dX8_alter_0 : decode cX8_alter 0 = .ok (.iload_n 1, 1) := by decide +kernel
theorem dX8_alter_1 : decode cX8_alter 1 = .ok (.i2l, 1) := by decide +kernel
theorem dX8_alter_2 : decode cX8_alter 2 = .ok (.lconst 0, 1) := by decide +kernel
theorem dX8_alter_3 : decode cX8_alter 3 = .ok (.aload_n 0, 1) := by decide +kernel
theorem dX8_alter_4 : decode cX8_alter 4 = .ok (.getfield 7, 3) := by decide +kernel
theorem dX8_alter_7 : decode cX8_alter 7 = .ok (.sipush 297, 3) := by decide +kernel
theorem dX8_alter_10 : decode cX8_alter 10 = .ok (.iaload, 1) := by decide +kernel
theorem dX8_alter_11 : decode cX8_alter 11 = .ok (.iconst 1, 1) := by decide +kernel
theorem dX8_alter_12 : decode cX8_alter 12 = .ok (.isub, 1) := by decide +kernel
theorem dX8_alter_13 : decode cX8_alter 13 = .ok (.i2l, 1) := by decide +kernel
theorem dX8_alter_14 : decode cX8_alter 14 = .ok (.invokestatic 58, 3) := by decide +kernel
theorem dX8_alter_17 : decode cX8_alter 17 = .ok (.ifCond .ne 5, 3) := by decide +kernel
theorem dX8_alter_20 : decode cX8_alter 20 = .ok (.iconst (-1), 1) := by decide +kernel
theorem dX8_alter_21 : decode cX8_alter 21 = .ok (.ireturn, 1) := by decide +kernel
theorem dX8_alter_22 : decode cX8_alter 22 = .ok (.aload_n 0, 1) := by decide +kernel
theorem dX8_alter_23 : decode cX8_alter 23 = .ok (.getfield 7, 3) := by decide +kernel
theorem dX8_alter_26 : decode cX8_alter 26 = .ok (.bipush 24, 2) := by decide +kernel
theorem dX8_alter_28 : decode cX8_alter 28 = .ok (.iload_n 1, 1) := by decide +kernel
theorem dX8_alter_29 : decode cX8_alter 29 = .ok (.iadd, 1) := by decide +kernel
theorem dX8_alter_30 : decode cX8_alter 30 = .ok (.iaload, 1) := by decide +kernel
theorem dX8_alter_31 : decode cX8_alter 31 = .ok (.istore_n 3, 1) := by decide +kernel
theorem dX8_alter_32 : decode cX8_alter 32 = .ok (.iload_n 3, 1) := by decide +kernel
theorem dX8_alter_33 : decode cX8_alter 33 = .ok (.iconst 5, 1) := by decide +kernel
theorem dX8_alter_34 : decode cX8_alter 34 = .ok (.if_icmp .ne 10, 3) := by decide +kernel
theorem dX8_alter_37 : decode cX8_alter 37 = .ok (.iload_n 2, 1) := by decide +kernel
theorem dX8_alter_38 : decode cX8_alter 38 = .ok (.invokestatic 212, 3) := by decide +kernel
theorem dX8_alter_41 : decode cX8_alter 41 = .ok (.goto 32, 3) := by decide +kernel
theorem dX8_alter_44 : decode cX8_alter 44 = .ok (.iload_n 3, 1) := by decide +kernel
theorem dX8_alter_45 : decode cX8_alter 45 = .ok (.i2l, 1) := by decide +kernel
theorem dX8_alter_46 : decode cX8_alter 46 = .ok (.lconst 0, 1) := by decide +kernel
theorem dX8_alter_47 : decode cX8_alter 47 = .ok (.ldc2_w 109, 3) := by decide +kernel
theorem dX8_alter_50 : decode cX8_alter 50 = .ok (.invokestatic 58, 3) := by decide +kernel
theorem dX8_alter_53 : decode cX8_alter 53 = .ok (.ifCond .eq 19, 3) := by decide +kernel
theorem dX8_alter_56 : decode cX8_alter 56 = .ok (.iload_n 2, 1) := by decide +kernel
theorem dX8_alter_57 : decode cX8_alter 57 = .ok (.i2l, 1) := by decide +kernel
theorem dX8_alter_58 : decode cX8_alter 58 = .ok (.lconst 0, 1) := by decide +kernel
theorem dX8_alter_59 : decode cX8_alter 59 = .ok (.ldc2_w 252, 3) := by decide +kernel
theorem dX8_alter_62 : decode cX8_alter 62 = .ok (.invokestatic 58, 3) := by decide +kernel
theorem dX8_alter_65 : decode cX8_alter 65 = .ok (.ifCond .eq 7, 3) := by decide +kernel
theorem dX8_alter_68 : decode cX8_alter 68 = .ok (.iconst 1, 1) := by decide +kernel
theorem dX8_alter_69 : decode cX8_alter 69 = .ok (.goto 4, 3) := by decide +kernel
theorem dX8_alter_72 : decode cX8_alter 72 = .ok (.iconst 0, 1) := by decide +kernel
theorem dX8_alter_73 : decode cX8_alter 73 = .ok (.istore 4, 2) := by decide +kernel
theorem dX8_alter_75 : decode cX8_alter 75 = .ok (.iload 4, 2) := by decide +kernel
theorem dX8_alter_77 : decode cX8_alter 77 = .ok (.ifCond .ne 5, 3) := by decide +kernel
theorem dX8_alter_80 : decode cX8_alter 80 = .ok (.iconst (-1), 1) := by decide +kernel
theorem dX8_alter_81 : decode cX8_alter 81 = .ok (.ireturn, 1) := by decide +kernel
theorem dX8_alter_82 : decode cX8_alter 82 = .ok (.aload_n 0, 1) := by decide +kernel
theorem dX8_alter_83 : decode cX8_alter 83 = .ok (.getfield 7, 3) := by decide +kernel
theorem dX8_alter_86 : decode cX8_alter 86 = .ok (.bipush 104, 2) := by decide +kernel
theorem dX8_alter_88 : decode cX8_alter 88 = .ok (.iload_n 1, 1) := by decide +kernel
theorem dX8_alter_89 : decode cX8_alter 89 = .ok (.iadd, 1) := by decide +kernel
theorem dX8_alter_90 : decode cX8_alter 90 = .ok (.iaload, 1) := by decide +kernel
theorem dX8_alter_91 : decode cX8_alter 91 = .ok (.istore 5, 2) := by decide +kernel
theorem dX8_alter_93 : decode cX8_alter 93 = .ok (.aload_n 0, 1) := by decide +kernel
theorem dX8_alter_94 : decode cX8_alter 94 = .ok (.getfield 7, 3) := by decide +kernel
theorem dX8_alter_97 : decode cX8_alter 97 = .ok (.bipush 104, 2) := by decide +kernel
theorem dX8_alter_99 : decode cX8_alter 99 = .ok (.iload_n 1, 1) := by decide +kernel
theorem dX8_alter_100 : decode cX8_alter 100 = .ok (.iadd, 1) := by decide +kernel
theorem dX8_alter_101 : decode cX8_alter 101 = .ok (.iload_n 2, 1) := by decide +kernel
theorem dX8_alter_102 : decode cX8_alter 102 = .ok (.iastore, 1) := by decide +kernel
theorem dX8_alter_103 : decode cX8_alter 103 = .ok (.iload 5, 2) := by decide +kernel
theorem dX8_alter_105 : decode cX8_alter 105 = .ok (.ireturn, 1) := by decide +kernel
theorem dX8_copies_0 : decode cX8_copies 0 = .ok (.iconst 0, 1) := by decide +kernel
theorem dX8_copies_1 : decode cX8_copies 1 = .ok (.istore_n 3, 1) := by decide +kernel
theorem dX8_copies_2 : decode cX8_copies 2 = .ok (.iload_n 3, 1) := by decide +kernel
theorem dX8_copies_3 : decode cX8_copies 3 = .ok (.sipush 354, 3) := by decide +kernel
theorem dX8_copies_6 : decode cX8_copies 6 = .ok (.if_icmp .ge 25, 3) := by decide +kernel
theorem dX8_copies_9 : decode cX8_copies 9 = .ok (.aload_n 0, 1) := by decide +kernel
theorem dX8_copies_10 : decode cX8_copies 10 = .ok (.getfield 7, 3) := by decide +kernel
theorem dX8_copies_13 : decode cX8_copies 13 = .ok (.iload_n 2, 1) := by decide +kernel
theorem dX8_copies_14 : decode cX8_copies 14 = .ok (.iload_n 3, 1) := by decide +kernel
theorem dX8_copies_15 : decode cX8_copies 15 = .ok (.iadd, 1) := by decide +kernel
theorem dX8_copies_16 : decode cX8_copies 16 = .ok (.aload_n 0, 1) := by decide +kernel
theorem dX8_copies_17 : decode cX8_copies 17 = .ok (.getfield 7, 3) := by decide +kernel
theorem dX8_copies_20 : decode cX8_copies 20 = .ok (.iload_n 1, 1) := by decide +kernel
theorem dX8_copies_21 : decode cX8_copies 21 = .ok (.iload_n 3, 1) := by decide +kernel
theorem dX8_copies_22 : decode cX8_copies 22 = .ok (.iadd, 1) := by decide +kernel
theorem dX8_copies_23 : decode cX8_copies 23 = .ok (.iaload, 1) := by decide +kernel
theorem dX8_copies_24 : decode cX8_copies 24 = .ok (.iastore, 1) := by decide +kernel
theorem dX8_copies_25 : decode cX8_copies 25 = .ok (.iinc 3 1, 3) := by decide +kernel
theorem dX8_copies_28 : decode cX8_copies 28 = .ok (.goto (-26), 3) := by decide +kernel
theorem dX8_copies_31 : decode cX8_copies 31 = .ok (.return_, 1) := by decide +kernel
set_option maxRecDepth 20000 in
theorem ggX8_keep_X8_in : GoodIn wsX8_keep wsX8_in := goodIn_r _ [5] rfl rfl
set_option maxRecDepth 20000 in
theorem gX8_keep_X8_in : GoodIn wsX8_keep (va_wsS RX8 58 yX8_in wsX8_in) := goodIn_app (goodIn_of _ (by decide +kernel)) ggX8_keep_X8_in
set_option maxRecDepth 20000 in
theorem ggX8_keep_X8_copies : GoodIn wsX8_keep wsX8_copies := goodIn_r _ [9, 10, 11, 12, 13, 14, 15, 16, 17, 18, 19, 20, 21, 22, 23, 24, 25, 26, 27, 28, 29, 30, 31, 32, 33, 34, 35, 36, 37, 38] rfl rfl
set_option maxRecDepth 20000 in
theorem gX8_keep_X8_copies : GoodIn wsX8_keep (wsV RX8 254 RX8 yX8_copies wsX8_copies) := goodIn_app (goodIn_of _ (by decide +kernel)) ggX8_keep_X8_copies
theorem dX8_keep_0 : decode cX8_keep 0 = .ok (.iload_n 1, 1) := by decide +kernel
theorem dX8_keep_1 : decode cX8_keep 1 = .ok (.i2l, 1) := by decide +kernel
theorem dX8_keep_2 : decode cX8_keep 2 = .ok (.lconst 0, 1) := by decide +kernel
theorem dX8_keep_3 : decode cX8_keep 3 = .ok (.lconst 1, 1) := by decide +kernel
theorem dX8_keep_4 : decode cX8_keep 4 = .ok (.invokestatic 58, 3) := by decide +kernel
theorem dX8_keep_7 : decode cX8_keep 7 = .ok (.ifCond .ne 5, 3) := by decide +kernel
theorem dX8_keep_10 : decode cX8_keep 10 = .ok (.iconst (-1), 1) := by decide +kernel
theorem dX8_keep_11 : decode cX8_keep 11 = .ok (.ireturn, 1) := by decide +kernel
theorem dX8_keep_12 : decode cX8_keep 12 = .ok (.aload_n 0, 1) := by decide +kernel
theorem dX8_keep_13 : decode cX8_keep 13 = .ok (.getfield 40, 3) := by decide +kernel
theorem dX8_keep_16 : decode cX8_keep 16 = .ok (.iload_n 1, 1) := by decide +kernel
theorem dX8_keep_17 : decode cX8_keep 17 = .ok (.baload, 1) := by decide +kernel
theorem dX8_keep_18 : decode cX8_keep 18 = .ok (.ifCond .eq 7, 3) := by decide +kernel
theorem dX8_keep_21 : decode cX8_keep 21 = .ok (.iconst 1, 1) := by decide +kernel
theorem dX8_keep_22 : decode cX8_keep 22 = .ok (.goto 4, 3) := by decide +kernel
theorem dX8_keep_25 : decode cX8_keep 25 = .ok (.iconst 0, 1) := by decide +kernel
theorem dX8_keep_26 : decode cX8_keep 26 = .ok (.istore_n 2, 1) := by decide +kernel
theorem dX8_keep_27 : decode cX8_keep 27 = .ok (.aload_n 0, 1) := by decide +kernel
theorem dX8_keep_28 : decode cX8_keep 28 = .ok (.iconst 0, 1) := by decide +kernel
theorem dX8_keep_29 : decode cX8_keep 29 = .ok (.sipush 354, 3) := by decide +kernel
theorem dX8_keep_32 : decode cX8_keep 32 = .ok (.iload_n 1, 1) := by decide +kernel
theorem dX8_keep_33 : decode cX8_keep 33 = .ok (.imul, 1) := by decide +kernel
theorem dX8_keep_34 : decode cX8_keep 34 = .ok (.sipush 354, 3) := by decide +kernel
theorem dX8_keep_37 : decode cX8_keep 37 = .ok (.iadd, 1) := by decide +kernel
theorem dX8_keep_38 : decode cX8_keep 38 = .ok (.invokevirtual 254, 3) := by decide +kernel
theorem dX8_keep_41 : decode cX8_keep 41 = .ok (.aload_n 0, 1) := by decide +kernel
theorem dX8_keep_42 : decode cX8_keep 42 = .ok (.getfield 40, 3) := by decide +kernel
theorem dX8_keep_45 : decode cX8_keep 45 = .ok (.iload_n 1, 1) := by decide +kernel
theorem dX8_keep_46 : decode cX8_keep 46 = .ok (.iconst 1, 1) := by decide +kernel
theorem dX8_keep_47 : decode cX8_keep 47 = .ok (.bastore, 1) := by decide +kernel
theorem dX8_keep_48 : decode cX8_keep 48 = .ok (.iload_n 2, 1) := by decide +kernel
theorem dX8_keep_49 : decode cX8_keep 49 = .ok (.ireturn, 1) := by decide +kernel
set_option maxRecDepth 20000 in
theorem ggX8_back_X8_in : GoodIn wsX8_back wsX8_in := goodIn_r _ [6] rfl rfl
set_option maxRecDepth 20000 in
theorem gX8_back_X8_in : GoodIn wsX8_back (va_wsS RX8 58 yX8_in wsX8_in) := goodIn_app (goodIn_of _ (by decide +kernel)) ggX8_back_X8_in
set_option maxRecDepth 20000 in
theorem ggX8_back_X8_copies : GoodIn wsX8_back wsX8_copies := goodIn_r _ [10, 11, 16, 17, 18, 19, 20, 21, 22, 23, 24, 25, 26, 27, 28, 29, 30, 31, 32, 33, 34, 35, 36, 37, 38, 39, 40, 41, 42, 43] rfl rfl
set_option maxRecDepth 20000 in
theorem gX8_back_X8_copies : GoodIn wsX8_back (wsV RX8 254 RX8 yX8_copies wsX8_copies) := goodIn_app (goodIn_of _ (by decide +kernel)) ggX8_back_X8_copies
set_option maxRecDepth 20000 in
theorem ggX8_back_X8_routines : GoodIn wsX8_back wsX8_routines := goodIn_r _ [15, 11, 16, 17, 18, 19, 20, 21, 22, 23, 24, 25, 26, 27, 28, 29, 30, 31, 32, 33, 34, 35, 36, 37, 38, 39, 40, 41, 42, 43] rfl rfl
set_option maxRecDepth 20000 in
theorem gX8_back_X8_routines : GoodIn wsX8_back (wsV RX8 150 RX8 yX8_routines wsX8_routines) := goodIn_app (goodIn_of _ (by decide +kernel)) ggX8_back_X8_routines
theorem dX8_back_0 : decode cX8_back 0 = .ok (.iload_n 1, 1) := by decide +kernel
theorem dX8_back_1 : decode cX8_back 1 = .ok (.i2l, 1) := by decide +kernel
theorem dX8_back_2 : decode cX8_back 2 = .ok (.lconst 0, 1) := by decide +kernel
theorem dX8_back_3 : decode cX8_back 3 = .ok (.lconst 1, 1) := by decide +kernel
theorem dX8_back_4 : decode cX8_back 4 = .ok (.invokestatic 58, 3) := by decide +kernel
theorem dX8_back_7 : decode cX8_back 7 = .ok (.ifCond .ne 5, 3) := by decide +kernel
theorem dX8_back_10 : decode cX8_back 10 = .ok (.iconst (-1), 1) := by decide +kernel
theorem dX8_back_11 : decode cX8_back 11 = .ok (.ireturn, 1) := by decide +kernel
theorem dX8_back_12 : decode cX8_back 12 = .ok (.aload_n 0, 1) := by decide +kernel
theorem dX8_back_13 : decode cX8_back 13 = .ok (.getfield 40, 3) := by decide +kernel
theorem dX8_back_16 : decode cX8_back 16 = .ok (.iload_n 1, 1) := by decide +kernel
theorem dX8_back_17 : decode cX8_back 17 = .ok (.baload, 1) := by decide +kernel
theorem dX8_back_18 : decode cX8_back 18 = .ok (.ifCond .ne 6, 3) := by decide +kernel
theorem dX8_back_21 : decode cX8_back 21 = .ok (.bipush (-2), 2) := by decide +kernel
theorem dX8_back_23 : decode cX8_back 23 = .ok (.ireturn, 1) := by decide +kernel
theorem dX8_back_24 : decode cX8_back 24 = .ok (.aload_n 0, 1) := by decide +kernel
theorem dX8_back_25 : decode cX8_back 25 = .ok (.sipush 354, 3) := by decide +kernel
theorem dX8_back_28 : decode cX8_back 28 = .ok (.iload_n 1, 1) := by decide +kernel
theorem dX8_back_29 : decode cX8_back 29 = .ok (.imul, 1) := by decide +kernel
theorem dX8_back_30 : decode cX8_back 30 = .ok (.sipush 354, 3) := by decide +kernel
theorem dX8_back_33 : decode cX8_back 33 = .ok (.iadd, 1) := by decide +kernel
theorem dX8_back_34 : decode cX8_back 34 = .ok (.iconst 0, 1) := by decide +kernel
theorem dX8_back_35 : decode cX8_back 35 = .ok (.invokevirtual 254, 3) := by decide +kernel
theorem dX8_back_38 : decode cX8_back 38 = .ok (.aload_n 0, 1) := by decide +kernel
theorem dX8_back_39 : decode cX8_back 39 = .ok (.iconst 0, 1) := by decide +kernel
theorem dX8_back_40 : decode cX8_back 40 = .ok (.putfield 146, 3) := by decide +kernel
theorem dX8_back_43 : decode cX8_back 43 = .ok (.aload_n 0, 1) := by decide +kernel
theorem dX8_back_44 : decode cX8_back 44 = .ok (.invokevirtual 150, 3) := by decide +kernel
theorem dX8_back_47 : decode cX8_back 47 = .ok (.ireturn, 1) := by decide +kernel
set_option maxRecDepth 20000 in
theorem ggX8_sheet_X8_in : GoodIn wsX8_sheet wsX8_in := goodIn_r _ [9] rfl rfl
set_option maxRecDepth 20000 in
theorem gX8_sheet_X8_in : GoodIn wsX8_sheet (va_wsS RX8 58 yX8_in wsX8_in) := goodIn_app (goodIn_of _ (by decide +kernel)) ggX8_sheet_X8_in
theorem dX8_sheet_0 : decode cX8_sheet 0 = .ok (.iload_n 1, 1) := by decide +kernel
theorem dX8_sheet_1 : decode cX8_sheet 1 = .ok (.i2l, 1) := by decide +kernel
theorem dX8_sheet_2 : decode cX8_sheet 2 = .ok (.lconst 0, 1) := by decide +kernel
theorem dX8_sheet_3 : decode cX8_sheet 3 = .ok (.ldc2_w 109, 3) := by decide +kernel
theorem dX8_sheet_6 : decode cX8_sheet 6 = .ok (.invokestatic 58, 3) := by decide +kernel
theorem dX8_sheet_9 : decode cX8_sheet 9 = .ok (.ifCond .eq 21, 3) := by decide +kernel
theorem dX8_sheet_12 : decode cX8_sheet 12 = .ok (.iload_n 2, 1) := by decide +kernel
theorem dX8_sheet_13 : decode cX8_sheet 13 = .ok (.i2l, 1) := by decide +kernel
theorem dX8_sheet_14 : decode cX8_sheet 14 = .ok (.lconst 0, 1) := by decide +kernel
theorem dX8_sheet_15 : decode cX8_sheet 15 = .ok (.ldc2_w 123, 3) := by decide +kernel
theorem dX8_sheet_18 : decode cX8_sheet 18 = .ok (.invokestatic 58, 3) := by decide +kernel
theorem dX8_sheet_21 : decode cX8_sheet 21 = .ok (.ifCond .eq 9, 3) := by decide +kernel
theorem dX8_sheet_24 : decode cX8_sheet 24 = .ok (.iload_n 3, 1) := by decide +kernel
theorem dX8_sheet_25 : decode cX8_sheet 25 = .ok (.bipush 40, 2) := by decide +kernel
theorem dX8_sheet_27 : decode cX8_sheet 27 = .ok (.if_icmp .le 5, 3) := by decide +kernel
theorem dX8_sheet_30 : decode cX8_sheet 30 = .ok (.iconst (-1), 1) := by decide +kernel
theorem dX8_sheet_31 : decode cX8_sheet 31 = .ok (.ireturn, 1) := by decide +kernel
theorem dX8_sheet_32 : decode cX8_sheet 32 = .ok (.iload_n 3, 1) := by decide +kernel
theorem dX8_sheet_33 : decode cX8_sheet 33 = .ok (.ifCond .ge 6, 3) := by decide +kernel
theorem dX8_sheet_36 : decode cX8_sheet 36 = .ok (.bipush (-14), 2) := by decide +kernel
theorem dX8_sheet_38 : decode cX8_sheet 38 = .ok (.ireturn, 1) := by decide +kernel
theorem dX8_sheet_39 : decode cX8_sheet 39 = .ok (.aload_n 0, 1) := by decide +kernel
theorem dX8_sheet_40 : decode cX8_sheet 40 = .ok (.getfield 44, 3) := by decide +kernel
theorem dX8_sheet_43 : decode cX8_sheet 43 = .ok (.iload_n 1, 1) := by decide +kernel
theorem dX8_sheet_44 : decode cX8_sheet 44 = .ok (.iload_n 2, 1) := by decide +kernel
theorem dX8_sheet_45 : decode cX8_sheet 45 = .ok (.iastore, 1) := by decide +kernel
theorem dX8_sheet_46 : decode cX8_sheet 46 = .ok (.aload_n 0, 1) := by decide +kernel
theorem dX8_sheet_47 : decode cX8_sheet 47 = .ok (.getfield 47, 3) := by decide +kernel
theorem dX8_sheet_50 : decode cX8_sheet 50 = .ok (.iload_n 1, 1) := by decide +kernel
theorem dX8_sheet_51 : decode cX8_sheet 51 = .ok (.iload_n 3, 1) := by decide +kernel
theorem dX8_sheet_52 : decode cX8_sheet 52 = .ok (.iastore, 1) := by decide +kernel
theorem dX8_sheet_53 : decode cX8_sheet 53 = .ok (.iconst 0, 1) := by decide +kernel
theorem dX8_sheet_54 : decode cX8_sheet 54 = .ok (.istore 4, 2) := by decide +kernel
theorem dX8_sheet_56 : decode cX8_sheet 56 = .ok (.iload 4, 2) := by decide +kernel
theorem dX8_sheet_58 : decode cX8_sheet 58 = .ok (.bipush 40, 2) := by decide +kernel
theorem dX8_sheet_60 : decode cX8_sheet 60 = .ok (.if_icmp .ge 22, 3) := by decide +kernel
theorem dX8_sheet_63 : decode cX8_sheet 63 = .ok (.aload_n 0, 1) := by decide +kernel
theorem dX8_sheet_64 : decode cX8_sheet 64 = .ok (.getfield 50, 3) := by decide +kernel
theorem dX8_sheet_67 : decode cX8_sheet 67 = .ok (.bipush 40, 2) := by decide +kernel
theorem dX8_sheet_69 : decode cX8_sheet 69 = .ok (.iload_n 1, 1) := by decide +kernel
theorem dX8_sheet_70 : decode cX8_sheet 70 = .ok (.imul, 1) := by decide +kernel
theorem dX8_sheet_71 : decode cX8_sheet 71 = .ok (.iload 4, 2) := by decide +kernel
theorem dX8_sheet_73 : decode cX8_sheet 73 = .ok (.iadd, 1) := by decide +kernel
theorem dX8_sheet_74 : decode cX8_sheet 74 = .ok (.iconst 0, 1) := by decide +kernel
theorem dX8_sheet_75 : decode cX8_sheet 75 = .ok (.iastore, 1) := by decide +kernel
theorem dX8_sheet_76 : decode cX8_sheet 76 = .ok (.iinc 4 1, 3) := by decide +kernel
theorem dX8_sheet_79 : decode cX8_sheet 79 = .ok (.goto (-23), 3) := by decide +kernel
theorem dX8_sheet_82 : decode cX8_sheet 82 = .ok (.iconst 1, 1) := by decide +kernel
theorem dX8_sheet_83 : decode cX8_sheet 83 = .ok (.ireturn, 1) := by decide +kernel
set_option maxRecDepth 20000 in
theorem ggX8_lay_X8_in : GoodIn wsX8_lay wsX8_in := goodIn_r _ [8] rfl rfl
set_option maxRecDepth 20000 in
theorem gX8_lay_X8_in : GoodIn wsX8_lay (va_wsS RX8 58 yX8_in wsX8_in) := goodIn_app (goodIn_of _ (by decide +kernel)) ggX8_lay_X8_in
theorem dX8_lay_0 : decode cX8_lay 0 = .ok (.iload_n 1, 1) := by decide +kernel
theorem dX8_lay_1 : decode cX8_lay 1 = .ok (.i2l, 1) := by decide +kernel
theorem dX8_lay_2 : decode cX8_lay 2 = .ok (.lconst 0, 1) := by decide +kernel
theorem dX8_lay_3 : decode cX8_lay 3 = .ok (.ldc2_w 109, 3) := by decide +kernel
theorem dX8_lay_6 : decode cX8_lay 6 = .ok (.invokestatic 58, 3) := by decide +kernel
theorem dX8_lay_9 : decode cX8_lay 9 = .ok (.ifCond .ne 5, 3) := by decide +kernel
theorem dX8_lay_12 : decode cX8_lay 12 = .ok (.iconst (-1), 1) := by decide +kernel
theorem dX8_lay_13 : decode cX8_lay 13 = .ok (.ireturn, 1) := by decide +kernel
theorem dX8_lay_14 : decode cX8_lay 14 = .ok (.aload_n 0, 1) := by decide +kernel
theorem dX8_lay_15 : decode cX8_lay 15 = .ok (.getfield 44, 3) := by decide +kernel
theorem dX8_lay_18 : decode cX8_lay 18 = .ok (.iload_n 1, 1) := by decide +kernel
theorem dX8_lay_19 : decode cX8_lay 19 = .ok (.iaload, 1) := by decide +kernel
theorem dX8_lay_20 : decode cX8_lay 20 = .ok (.bipush (-4), 2) := by decide +kernel
theorem dX8_lay_22 : decode cX8_lay 22 = .ok (.if_icmp .ne 6, 3) := by decide +kernel
theorem dX8_lay_25 : decode cX8_lay 25 = .ok (.bipush (-11), 2) := by decide +kernel
theorem dX8_lay_27 : decode cX8_lay 27 = .ok (.ireturn, 1) := by decide +kernel
theorem dX8_lay_28 : decode cX8_lay 28 = .ok (.iload_n 2, 1) := by decide +kernel
theorem dX8_lay_29 : decode cX8_lay 29 = .ok (.i2l, 1) := by decide +kernel
theorem dX8_lay_30 : decode cX8_lay 30 = .ok (.lconst 0, 1) := by decide +kernel
theorem dX8_lay_31 : decode cX8_lay 31 = .ok (.aload_n 0, 1) := by decide +kernel
theorem dX8_lay_32 : decode cX8_lay 32 = .ok (.getfield 47, 3) := by decide +kernel
theorem dX8_lay_35 : decode cX8_lay 35 = .ok (.iload_n 1, 1) := by decide +kernel
theorem dX8_lay_36 : decode cX8_lay 36 = .ok (.iaload, 1) := by decide +kernel
theorem dX8_lay_37 : decode cX8_lay 37 = .ok (.iconst 1, 1) := by decide +kernel
theorem dX8_lay_38 : decode cX8_lay 38 = .ok (.isub, 1) := by decide +kernel
theorem dX8_lay_39 : decode cX8_lay 39 = .ok (.i2l, 1) := by decide +kernel
theorem dX8_lay_40 : decode cX8_lay 40 = .ok (.invokestatic 58, 3) := by decide +kernel
theorem dX8_lay_43 : decode cX8_lay 43 = .ok (.ifCond .ne 6, 3) := by decide +kernel
theorem dX8_lay_46 : decode cX8_lay 46 = .ok (.bipush (-12), 2) := by decide +kernel
theorem dX8_lay_48 : decode cX8_lay 48 = .ok (.ireturn, 1) := by decide +kernel
theorem dX8_lay_49 : decode cX8_lay 49 = .ok (.aload_n 0, 1) := by decide +kernel
theorem dX8_lay_50 : decode cX8_lay 50 = .ok (.getfield 50, 3) := by decide +kernel
theorem dX8_lay_53 : decode cX8_lay 53 = .ok (.bipush 40, 2) := by decide +kernel
theorem dX8_lay_55 : decode cX8_lay 55 = .ok (.iload_n 1, 1) := by decide +kernel
theorem dX8_lay_56 : decode cX8_lay 56 = .ok (.imul, 1) := by decide +kernel
theorem dX8_lay_57 : decode cX8_lay 57 = .ok (.iload_n 2, 1) := by decide +kernel
theorem dX8_lay_58 : decode cX8_lay 58 = .ok (.iadd, 1) := by decide +kernel
theorem dX8_lay_59 : decode cX8_lay 59 = .ok (.aload_n 0, 1) := by decide +kernel
theorem dX8_lay_60 : decode cX8_lay 60 = .ok (.getfield 44, 3) := by decide +kernel
theorem dX8_lay_63 : decode cX8_lay 63 = .ok (.iload_n 1, 1) := by decide +kernel
theorem dX8_lay_64 : decode cX8_lay 64 = .ok (.iaload, 1) := by decide +kernel
theorem dX8_lay_65 : decode cX8_lay 65 = .ok (.ifCond .ne 13, 3) := by decide +kernel
theorem dX8_lay_68 : decode cX8_lay 68 = .ok (.iload_n 3, 1) := by decide +kernel
theorem dX8_lay_69 : decode cX8_lay 69 = .ok (.bipush 24, 2) := by decide +kernel
theorem dX8_lay_71 : decode cX8_lay 71 = .ok (.ishl, 1) := by decide +kernel
theorem dX8_lay_72 : decode cX8_lay 72 = .ok (.bipush 24, 2) := by decide +kernel
theorem dX8_lay_74 : decode cX8_lay 74 = .ok (.ishr, 1) := by decide +kernel
theorem dX8_lay_75 : decode cX8_lay 75 = .ok (.goto 24, 3) := by decide +kernel
theorem dX8_lay_78 : decode cX8_lay 78 = .ok (.aload_n 0, 1) := by decide +kernel
theorem dX8_lay_79 : decode cX8_lay 79 = .ok (.getfield 44, 3) := by decide +kernel
theorem dX8_lay_82 : decode cX8_lay 82 = .ok (.iload_n 1, 1) := by decide +kernel
theorem dX8_lay_83 : decode cX8_lay 83 = .ok (.iaload, 1) := by decide +kernel
theorem dX8_lay_84 : decode cX8_lay 84 = .ok (.iconst 1, 1) := by decide +kernel
theorem dX8_lay_85 : decode cX8_lay 85 = .ok (.if_icmp .ne 13, 3) := by decide +kernel
theorem dX8_lay_88 : decode cX8_lay 88 = .ok (.iload_n 3, 1) := by decide +kernel
theorem dX8_lay_89 : decode cX8_lay 89 = .ok (.bipush 16, 2) := by decide +kernel
theorem dX8_lay_91 : decode cX8_lay 91 = .ok (.ishl, 1) := by decide +kernel
theorem dX8_lay_92 : decode cX8_lay 92 = .ok (.bipush 16, 2) := by decide +kernel
theorem dX8_lay_94 : decode cX8_lay 94 = .ok (.ishr, 1) := by decide +kernel
theorem dX8_lay_95 : decode cX8_lay 95 = .ok (.goto 4, 3) := by decide +kernel
theorem dX8_lay_98 : decode cX8_lay 98 = .ok (.iload_n 3, 1) := by decide +kernel
theorem dX8_lay_99 : decode cX8_lay 99 = .ok (.iastore, 1) := by decide +kernel
theorem dX8_lay_100 : decode cX8_lay 100 = .ok (.iconst 1, 1) := by decide +kernel
theorem dX8_lay_101 : decode cX8_lay 101 = .ok (.ireturn, 1) := by decide +kernel
theorem dX8_wordsAside_0 : decode cX8_wordsAside 0 = .ok (.iconst 0, 1) := by decide +kernel
theorem dX8_wordsAside_1 : decode cX8_wordsAside 1 = .ok (.istore_n 2, 1) := by decide +kernel
theorem dX8_wordsAside_2 : decode cX8_wordsAside 2 = .ok (.iload_n 2, 1) := by decide +kernel
theorem dX8_wordsAside_3 : decode cX8_wordsAside 3 = .ok (.bipush 48, 2) := by decide +kernel
theorem dX8_wordsAside_5 : decode cX8_wordsAside 5 = .ok (.if_icmp .ge 48, 3) := by decide +kernel
theorem dX8_wordsAside_8 : decode cX8_wordsAside 8 = .ok (.iload_n 1, 1) := by decide +kernel
theorem dX8_wordsAside_9 : decode cX8_wordsAside 9 = .ok (.ifCond .eq 22, 3) := by decide +kernel
theorem dX8_wordsAside_12 : decode cX8_wordsAside 12 = .ok (.aload_n 0, 1) := by decide +kernel
theorem dX8_wordsAside_13 : decode cX8_wordsAside 13 = .ok (.getfield 7, 3) := by decide +kernel
theorem dX8_wordsAside_16 : decode cX8_wordsAside 16 = .ok (.sipush 306, 3) := by decide +kernel
theorem dX8_wordsAside_19 : decode cX8_wordsAside 19 = .ok (.iload_n 2, 1) := by decide +kernel
theorem dX8_wordsAside_20 : decode cX8_wordsAside 20 = .ok (.iadd, 1) := by decide +kernel
theorem dX8_wordsAside_21 : decode cX8_wordsAside 21 = .ok (.aload_n 0, 1) := by decide +kernel
theorem dX8_wordsAside_22 : decode cX8_wordsAside 22 = .ok (.getfield 53, 3) := by decide +kernel
theorem dX8_wordsAside_25 : decode cX8_wordsAside 25 = .ok (.iload_n 2, 1) := by decide +kernel
theorem dX8_wordsAside_26 : decode cX8_wordsAside 26 = .ok (.iaload, 1) := by decide +kernel
theorem dX8_wordsAside_27 : decode cX8_wordsAside 27 = .ok (.iastore, 1) := by decide +kernel
theorem dX8_wordsAside_28 : decode cX8_wordsAside 28 = .ok (.goto 19, 3) := by decide +kernel
theorem dX8_wordsAside_31 : decode cX8_wordsAside 31 = .ok (.aload_n 0, 1) := by decide +kernel
theorem dX8_wordsAside_32 : decode cX8_wordsAside 32 = .ok (.getfield 53, 3) := by decide +kernel
theorem dX8_wordsAside_35 : decode cX8_wordsAside 35 = .ok (.iload_n 2, 1) := by decide +kernel
theorem dX8_wordsAside_36 : decode cX8_wordsAside 36 = .ok (.aload_n 0, 1) := by decide +kernel
theorem dX8_wordsAside_37 : decode cX8_wordsAside 37 = .ok (.getfield 7, 3) := by decide +kernel
theorem dX8_wordsAside_40 : decode cX8_wordsAside 40 = .ok (.sipush 306, 3) := by decide +kernel
theorem dX8_wordsAside_43 : decode cX8_wordsAside 43 = .ok (.iload_n 2, 1) := by decide +kernel
theorem dX8_wordsAside_44 : decode cX8_wordsAside 44 = .ok (.iadd, 1) := by decide +kernel
theorem dX8_wordsAside_45 : decode cX8_wordsAside 45 = .ok (.iaload, 1) := by decide +kernel
theorem dX8_wordsAside_46 : decode cX8_wordsAside 46 = .ok (.iastore, 1) := by decide +kernel
theorem dX8_wordsAside_47 : decode cX8_wordsAside 47 = .ok (.iinc 2 1, 3) := by decide +kernel
theorem dX8_wordsAside_50 : decode cX8_wordsAside 50 = .ok (.goto (-48), 3) := by decide +kernel
theorem dX8_wordsAside_53 : decode cX8_wordsAside 53 = .ok (.return_, 1) := by decide +kernel
set_option maxRecDepth 20000 in
theorem ggX8_isPoked_X8_in : GoodIn wsX8_isPoked wsX8_in := goodIn_r _ [5] rfl rfl
set_option maxRecDepth 20000 in
theorem gX8_isPoked_X8_in : GoodIn wsX8_isPoked (va_wsS RX8 58 yX8_in wsX8_in) := goodIn_app (goodIn_of _ (by decide +kernel)) ggX8_isPoked_X8_in
set_option maxRecDepth 20000 in
theorem ggX8_isPoked_X8_becomes : GoodIn wsX8_isPoked wsX8_becomes := goodIn_r _ [9, 10, 11, 2, 3, 4, 5, 12, 13, 14, 15, 16, 17, 18, 19, 20, 21, 22, 23, 24, 25, 26, 27, 28, 29, 30, 31, 32, 33, 34, 35, 36, 37, 38, 39] rfl rfl
set_option maxRecDepth 20000 in
theorem gX8_isPoked_X8_becomes : GoodIn wsX8_isPoked (wsV RX8 215 RX8 yX8_becomes wsX8_becomes) := goodIn_app (goodIn_of _ (by decide +kernel)) ggX8_isPoked_X8_becomes
theorem dX8_isPoked_0 : decode cX8_isPoked 0 = .ok (.lload_n 1, 1) := by decide +kernel
theorem dX8_isPoked_1 : decode cX8_isPoked 1 = .ok (.lconst 0, 1) := by decide +kernel
theorem dX8_isPoked_2 : decode cX8_isPoked 2 = .ok (.ldc2_w 210, 3) := by decide +kernel
theorem dX8_isPoked_5 : decode cX8_isPoked 5 = .ok (.invokestatic 58, 3) := by decide +kernel
theorem dX8_isPoked_8 : decode cX8_isPoked 8 = .ok (.istore 4, 2) := by decide +kernel
theorem dX8_isPoked_10 : decode cX8_isPoked 10 = .ok (.aload_n 0, 1) := by decide +kernel
theorem dX8_isPoked_11 : decode cX8_isPoked 11 = .ok (.iload 4, 2) := by decide +kernel
theorem dX8_isPoked_13 : decode cX8_isPoked 13 = .ok (.sipush 306, 3) := by decide +kernel
theorem dX8_isPoked_16 : decode cX8_isPoked 16 = .ok (.iload 4, 2) := by decide +kernel
theorem dX8_isPoked_18 : decode cX8_isPoked 18 = .ok (.ifCond .eq 8, 3) := by decide +kernel
theorem dX8_isPoked_21 : decode cX8_isPoked 21 = .ok (.lload_n 1, 1) := by decide +kernel
theorem dX8_isPoked_22 : decode cX8_isPoked 22 = .ok (.l2i, 1) := by decide +kernel
theorem dX8_isPoked_23 : decode cX8_isPoked 23 = .ok (.goto 4, 3) := by decide +kernel
theorem dX8_isPoked_26 : decode cX8_isPoked 26 = .ok (.iconst 0, 1) := by decide +kernel
theorem dX8_isPoked_27 : decode cX8_isPoked 27 = .ok (.iadd, 1) := by decide +kernel
theorem dX8_isPoked_28 : decode cX8_isPoked 28 = .ok (.iload_n 3, 1) := by decide +kernel
theorem dX8_isPoked_29 : decode cX8_isPoked 29 = .ok (.invokevirtual 215, 3) := by decide +kernel
theorem dX8_isPoked_32 : decode cX8_isPoked 32 = .ok (.ifCond .lt 7, 3) := by decide +kernel
theorem dX8_isPoked_35 : decode cX8_isPoked 35 = .ok (.iconst 1, 1) := by decide +kernel
theorem dX8_isPoked_36 : decode cX8_isPoked 36 = .ok (.goto 4, 3) := by decide +kernel
theorem dX8_isPoked_39 : decode cX8_isPoked 39 = .ok (.iconst 0, 1) := by decide +kernel
theorem dX8_isPoked_40 : decode cX8_isPoked 40 = .ok (.ireturn, 1) := by decide +kernel
set_option maxRecDepth 20000 in
theorem ggX8_read_X8_in : GoodIn wsX8_read wsX8_in := goodIn_r _ [11] rfl rfl
set_option maxRecDepth 20000 in
theorem gX8_read_X8_in : GoodIn wsX8_read (va_wsS RX8 58 yX8_in wsX8_in) := goodIn_app (goodIn_of _ (by decide +kernel)) ggX8_read_X8_in
set_option maxRecDepth 20000 in
theorem ggX8_read_X8_wordsAside : GoodIn wsX8_read wsX8_wordsAside := goodIn_r _ [15, 16, 17, 28, 29, 30, 31, 32, 33, 34, 35, 36, 37, 38, 39, 40, 41, 42, 43, 44, 45, 46, 47, 48, 49, 50, 51, 52, 53, 54, 55] rfl rfl
set_option maxRecDepth 20000 in
theorem gX8_read_X8_wordsAside : GoodIn wsX8_read (wsV RX8 259 RX8 yX8_wordsAside wsX8_wordsAside) := goodIn_app (goodIn_of _ (by decide +kernel)) ggX8_read_X8_wordsAside
set_option maxRecDepth 20000 in
theorem ggX8_read_X8_isPoked : GoodIn wsX8_read wsX8_isPoked := goodIn_r _ [21, 22, 8, 9, 10, 11, 23, 24, 25, 26, 27, 16, 28, 29, 30, 31, 32, 33, 34, 35, 36, 37, 38, 39, 40, 41, 42, 43, 44, 45, 46, 47, 48, 49, 50, 51, 52, 53, 54, 55] rfl rfl
set_option maxRecDepth 20000 in
theorem gX8_read_X8_isPoked : GoodIn wsX8_read (wsV RX8 263 RX8 yX8_isPoked wsX8_isPoked) := goodIn_app (goodIn_of _ (by decide +kernel)) ggX8_read_X8_isPoked
theorem dX8_read_0 : decode cX8_read 0 = .ok (.iload_n 1, 1) := by decide +kernel
theorem dX8_read_1 : decode cX8_read 1 = .ok (.i2l, 1) := by decide +kernel
theorem dX8_read_2 : decode cX8_read 2 = .ok (.lconst 0, 1) := by decide +kernel
theorem dX8_read_3 : decode cX8_read 3 = .ok (.ldc2_w 109, 3) := by decide +kernel
theorem dX8_read_6 : decode cX8_read 6 = .ok (.invokestatic 58, 3) := by decide +kernel
theorem dX8_read_9 : decode cX8_read 9 = .ok (.ifCond .eq 28, 3) := by decide +kernel
theorem dX8_read_12 : decode cX8_read 12 = .ok (.iload_n 2, 1) := by decide +kernel
theorem dX8_read_13 : decode cX8_read 13 = .ok (.i2l, 1) := by decide +kernel
theorem dX8_read_14 : decode cX8_read 14 = .ok (.lconst 0, 1) := by decide +kernel
theorem dX8_read_15 : decode cX8_read 15 = .ok (.ldc2_w 123, 3) := by decide +kernel
theorem dX8_read_18 : decode cX8_read 18 = .ok (.invokestatic 58, 3) := by decide +kernel
theorem dX8_read_21 : decode cX8_read 21 = .ok (.ifCond .eq 16, 3) := by decide +kernel
theorem dX8_read_24 : decode cX8_read 24 = .ok (.iload 4, 2) := by decide +kernel
theorem dX8_read_26 : decode cX8_read 26 = .ok (.i2l, 1) := by decide +kernel
theorem dX8_read_27 : decode cX8_read 27 = .ok (.lconst 0, 1) := by decide +kernel
theorem dX8_read_28 : decode cX8_read 28 = .ok (.ldc2_w 257, 3) := by decide +kernel
theorem dX8_read_31 : decode cX8_read 31 = .ok (.invokestatic 58, 3) := by decide +kernel
theorem dX8_read_34 : decode cX8_read 34 = .ok (.ifCond .ne 5, 3) := by decide +kernel
theorem dX8_read_37 : decode cX8_read 37 = .ok (.iconst (-1), 1) := by decide +kernel
theorem dX8_read_38 : decode cX8_read 38 = .ok (.ireturn, 1) := by decide +kernel
theorem dX8_read_39 : decode cX8_read 39 = .ok (.aload_n 0, 1) := by decide +kernel
theorem dX8_read_40 : decode cX8_read 40 = .ok (.iconst 0, 1) := by decide +kernel
theorem dX8_read_41 : decode cX8_read 41 = .ok (.invokevirtual 259, 3) := by decide +kernel
theorem dX8_read_44 : decode cX8_read 44 = .ok (.iconst 0, 1) := by decide +kernel
theorem dX8_read_45 : decode cX8_read 45 = .ok (.istore 6, 2) := by decide +kernel
theorem dX8_read_47 : decode cX8_read 47 = .ok (.iconst 0, 1) := by decide +kernel
theorem dX8_read_48 : decode cX8_read 48 = .ok (.istore 7, 2) := by decide +kernel
theorem dX8_read_50 : decode cX8_read 50 = .ok (.iload 7, 2) := by decide +kernel
theorem dX8_read_52 : decode cX8_read 52 = .ok (.iload 4, 2) := by decide +kernel
theorem dX8_read_54 : decode cX8_read 54 = .ok (.if_icmp .ge 119, 3) := by decide +kernel
theorem dX8_read_57 : decode cX8_read 57 = .ok (.iload 6, 2) := by decide +kernel
theorem dX8_read_59 : decode cX8_read 59 = .ok (.ifCond .ne 114, 3) := by decide +kernel
theorem dX8_read_62 : decode cX8_read 62 = .ok (.iload_n 3, 1) := by decide +kernel
theorem dX8_read_63 : decode cX8_read 63 = .ok (.i2l, 1) := by decide +kernel
theorem dX8_read_64 : decode cX8_read 64 = .ok (.iload 7, 2) := by decide +kernel
theorem dX8_read_66 : decode cX8_read 66 = .ok (.i2l, 1) := by decide +kernel
theorem dX8_read_67 : decode cX8_read 67 = .ok (.ladd, 1) := by decide +kernel
theorem dX8_read_68 : decode cX8_read 68 = .ok (.lstore 8, 2) := by decide +kernel
theorem dX8_read_70 : decode cX8_read 70 = .ok (.aload_n 0, 1) := by decide +kernel
theorem dX8_read_71 : decode cX8_read 71 = .ok (.getfield 44, 3) := by decide +kernel
theorem dX8_read_74 : decode cX8_read 74 = .ok (.iload_n 1, 1) := by decide +kernel
theorem dX8_read_75 : decode cX8_read 75 = .ok (.iaload, 1) := by decide +kernel
theorem dX8_read_76 : decode cX8_read 76 = .ok (.bipush (-4), 2) := by decide +kernel
theorem dX8_read_78 : decode cX8_read 78 = .ok (.if_icmp .ne 7, 3) := by decide +kernel
theorem dX8_read_81 : decode cX8_read 81 = .ok (.iconst 1, 1) := by decide +kernel
theorem dX8_read_82 : decode cX8_read 82 = .ok (.goto 40, 3) := by decide +kernel
theorem dX8_read_85 : decode cX8_read 85 = .ok (.aload_n 0, 1) := by decide +kernel
theorem dX8_read_86 : decode cX8_read 86 = .ok (.getfield 44, 3) := by decide +kernel
theorem dX8_read_89 : decode cX8_read 89 = .ok (.iload_n 1, 1) := by decide +kernel
theorem dX8_read_90 : decode cX8_read 90 = .ok (.iaload, 1) := by decide +kernel
theorem dX8_read_91 : decode cX8_read 91 = .ok (.iload_n 2, 1) := by decide +kernel
theorem dX8_read_92 : decode cX8_read 92 = .ok (.if_icmp .eq 7, 3) := by decide +kernel
theorem dX8_read_95 : decode cX8_read 95 = .ok (.iconst 3, 1) := by decide +kernel
theorem dX8_read_96 : decode cX8_read 96 = .ok (.goto 26, 3) := by decide +kernel
theorem dX8_read_99 : decode cX8_read 99 = .ok (.lload 8, 2) := by decide +kernel
theorem dX8_read_101 : decode cX8_read 101 = .ok (.lconst 0, 1) := by decide +kernel
theorem dX8_read_102 : decode cX8_read 102 = .ok (.aload_n 0, 1) := by decide +kernel
theorem dX8_read_103 : decode cX8_read 103 = .ok (.getfield 47, 3) := by decide +kernel
theorem dX8_read_106 : decode cX8_read 106 = .ok (.iload_n 1, 1) := by decide +kernel
theorem dX8_read_107 : decode cX8_read 107 = .ok (.iaload, 1) := by decide +kernel
theorem dX8_read_108 : decode cX8_read 108 = .ok (.iconst 1, 1) := by decide +kernel
theorem dX8_read_109 : decode cX8_read 109 = .ok (.isub, 1) := by decide +kernel
theorem dX8_read_110 : decode cX8_read 110 = .ok (.i2l, 1) := by decide +kernel
theorem dX8_read_111 : decode cX8_read 111 = .ok (.invokestatic 58, 3) := by decide +kernel
theorem dX8_read_114 : decode cX8_read 114 = .ok (.ifCond .ne 7, 3) := by decide +kernel
theorem dX8_read_117 : decode cX8_read 117 = .ok (.iconst 2, 1) := by decide +kernel
theorem dX8_read_118 : decode cX8_read 118 = .ok (.goto 4, 3) := by decide +kernel
theorem dX8_read_121 : decode cX8_read 121 = .ok (.iconst 0, 1) := by decide +kernel
theorem dX8_read_122 : decode cX8_read 122 = .ok (.istore 6, 2) := by decide +kernel
theorem dX8_read_124 : decode cX8_read 124 = .ok (.iload 6, 2) := by decide +kernel
theorem dX8_read_126 : decode cX8_read 126 = .ok (.ifCond .ne 44, 3) := by decide +kernel
theorem dX8_read_129 : decode cX8_read 129 = .ok (.aload_n 0, 1) := by decide +kernel
theorem dX8_read_130 : decode cX8_read 130 = .ok (.iload 5, 2) := by decide +kernel
theorem dX8_read_132 : decode cX8_read 132 = .ok (.i2l, 1) := by decide +kernel
theorem dX8_read_133 : decode cX8_read 133 = .ok (.iload 7, 2) := by decide +kernel
theorem dX8_read_135 : decode cX8_read 135 = .ok (.i2l, 1) := by decide +kernel
theorem dX8_read_136 : decode cX8_read 136 = .ok (.ladd, 1) := by decide +kernel
theorem dX8_read_137 : decode cX8_read 137 = .ok (.aload_n 0, 1) := by decide +kernel
theorem dX8_read_138 : decode cX8_read 138 = .ok (.getfield 50, 3) := by decide +kernel
theorem dX8_read_141 : decode cX8_read 141 = .ok (.bipush 40, 2) := by decide +kernel
theorem dX8_read_143 : decode cX8_read 143 = .ok (.iload_n 1, 1) := by decide +kernel
theorem dX8_read_144 : decode cX8_read 144 = .ok (.imul, 1) := by decide +kernel
theorem dX8_read_145 : decode cX8_read 145 = .ok (.lload 8, 2) := by decide +kernel
theorem dX8_read_147 : decode cX8_read 147 = .ok (.l2i, 1) := by decide +kernel
theorem dX8_read_148 : decode cX8_read 148 = .ok (.iadd, 1) := by decide +kernel
theorem dX8_read_149 : decode cX8_read 149 = .ok (.iaload, 1) := by decide +kernel
theorem dX8_read_150 : decode cX8_read 150 = .ok (.invokevirtual 263, 3) := by decide +kernel
theorem dX8_read_153 : decode cX8_read 153 = .ok (.ifCond .ne 14, 3) := by decide +kernel
theorem dX8_read_156 : decode cX8_read 156 = .ok (.aload_n 0, 1) := by decide +kernel
theorem dX8_read_157 : decode cX8_read 157 = .ok (.iconst 1, 1) := by decide +kernel
theorem dX8_read_158 : decode cX8_read 158 = .ok (.invokevirtual 259, 3) := by decide +kernel
theorem dX8_read_161 : decode cX8_read 161 = .ok (.bipush (-20), 2) := by decide +kernel
theorem dX8_read_163 : decode cX8_read 163 = .ok (.iload 7, 2) := by decide +kernel
theorem dX8_read_165 : decode cX8_read 165 = .ok (.isub, 1) := by decide +kernel
theorem dX8_read_166 : decode cX8_read 166 = .ok (.ireturn, 1) := by decide +kernel
theorem dX8_read_167 : decode cX8_read 167 = .ok (.iinc 7 1, 3) := by decide +kernel
theorem dX8_read_170 : decode cX8_read 170 = .ok (.goto (-120), 3) := by decide +kernel
theorem dX8_read_173 : decode cX8_read 173 = .ok (.aload_n 0, 1) := by decide +kernel
theorem dX8_read_174 : decode cX8_read 174 = .ok (.iload 6, 2) := by decide +kernel
theorem dX8_read_176 : decode cX8_read 176 = .ok (.putfield 267, 3) := by decide +kernel
theorem dX8_read_179 : decode cX8_read 179 = .ok (.iload 7, 2) := by decide +kernel
theorem dX8_read_181 : decode cX8_read 181 = .ok (.ireturn, 1) := by decide +kernel
theorem dX8_torn_0 : decode cX8_torn 0 = .ok (.aload_n 0, 1) := by decide +kernel
theorem dX8_torn_1 : decode cX8_torn 1 = .ok (.getfield 267, 3) := by decide +kernel
theorem dX8_torn_4 : decode cX8_torn 4 = .ok (.ireturn, 1) := by decide +kernel
theorem dX8_count_0 : decode cX8_count 0 = .ok (.iconst 0, 1) := by decide +kernel
theorem dX8_count_1 : decode cX8_count 1 = .ok (.istore_n 2, 1) := by decide +kernel
theorem dX8_count_2 : decode cX8_count 2 = .ok (.iconst 0, 1) := by decide +kernel
theorem dX8_count_3 : decode cX8_count 3 = .ok (.istore_n 3, 1) := by decide +kernel
theorem dX8_count_4 : decode cX8_count 4 = .ok (.iconst 0, 1) := by decide +kernel
theorem dX8_count_5 : decode cX8_count 5 = .ok (.istore 4, 2) := by decide +kernel
theorem dX8_count_7 : decode cX8_count 7 = .ok (.iload 4, 2) := by decide +kernel
theorem dX8_count_9 : decode cX8_count 9 = .ok (.bipush 6, 2) := by decide +kernel
theorem dX8_count_11 : decode cX8_count 11 = .ok (.if_icmp .ge 23, 3) := by decide +kernel
theorem dX8_count_14 : decode cX8_count 14 = .ok (.iload_n 2, 1) := by decide +kernel
theorem dX8_count_15 : decode cX8_count 15 = .ok (.aload_n 0, 1) := by decide +kernel
theorem dX8_count_16 : decode cX8_count 16 = .ok (.getfield 7, 3) := by decide +kernel
theorem dX8_count_19 : decode cX8_count 19 = .ok (.sipush 300, 3) := by decide +kernel
theorem dX8_count_22 : decode cX8_count 22 = .ok (.iload 4, 2) := by decide +kernel
theorem dX8_count_24 : decode cX8_count 24 = .ok (.iadd, 1) := by decide +kernel
theorem dX8_count_25 : decode cX8_count 25 = .ok (.iaload, 1) := by decide +kernel
theorem dX8_count_26 : decode cX8_count 26 = .ok (.iadd, 1) := by decide +kernel
theorem dX8_count_27 : decode cX8_count 27 = .ok (.istore_n 2, 1) := by decide +kernel
theorem dX8_count_28 : decode cX8_count 28 = .ok (.iinc 4 1, 3) := by decide +kernel
theorem dX8_count_31 : decode cX8_count 31 = .ok (.goto (-24), 3) := by decide +kernel
theorem dX8_count_34 : decode cX8_count 34 = .ok (.iconst 0, 1) := by decide +kernel
theorem dX8_count_35 : decode cX8_count 35 = .ok (.istore 4, 2) := by decide +kernel
theorem dX8_count_37 : decode cX8_count 37 = .ok (.iload 4, 2) := by decide +kernel
theorem dX8_count_39 : decode cX8_count 39 = .ok (.bipush 48, 2) := by decide +kernel
theorem dX8_count_41 : decode cX8_count 41 = .ok (.if_icmp .ge 23, 3) := by decide +kernel
theorem dX8_count_44 : decode cX8_count 44 = .ok (.iload_n 3, 1) := by decide +kernel
theorem dX8_count_45 : decode cX8_count 45 = .ok (.aload_n 0, 1) := by decide +kernel
theorem dX8_count_46 : decode cX8_count 46 = .ok (.getfield 7, 3) := by decide +kernel
theorem dX8_count_49 : decode cX8_count 49 = .ok (.sipush 306, 3) := by decide +kernel
theorem dX8_count_52 : decode cX8_count 52 = .ok (.iload 4, 2) := by decide +kernel
theorem dX8_count_54 : decode cX8_count 54 = .ok (.iadd, 1) := by decide +kernel
theorem dX8_count_55 : decode cX8_count 55 = .ok (.iaload, 1) := by decide +kernel
theorem dX8_count_56 : decode cX8_count 56 = .ok (.iadd, 1) := by decide +kernel
theorem dX8_count_57 : decode cX8_count 57 = .ok (.istore_n 3, 1) := by decide +kernel
theorem dX8_count_58 : decode cX8_count 58 = .ok (.iinc 4 1, 3) := by decide +kernel
theorem dX8_count_61 : decode cX8_count 61 = .ok (.goto (-24), 3) := by decide +kernel
theorem dX8_count_64 : decode cX8_count 64 = .ok (.iload_n 1, 1) := by decide +kernel
theorem dX8_count_65 : decode cX8_count 65 = .ok (.tableswitch 97 0 4 #[35, 65, 70, 93, 95], 35) := by decide +kernel
theorem dX8_count_100 : decode cX8_count 100 = .ok (.aload_n 0, 1) := by decide +kernel
theorem dX8_count_101 : decode cX8_count 101 = .ok (.getfield 40, 3) := by decide +kernel
theorem dX8_count_104 : decode cX8_count 104 = .ok (.iconst 0, 1) := by decide +kernel
theorem dX8_count_105 : decode cX8_count 105 = .ok (.baload, 1) := by decide +kernel
theorem dX8_count_106 : decode cX8_count 106 = .ok (.ifCond .eq 7, 3) := by decide +kernel
theorem dX8_count_109 : decode cX8_count 109 = .ok (.iconst 1, 1) := by decide +kernel
theorem dX8_count_110 : decode cX8_count 110 = .ok (.goto 4, 3) := by decide +kernel
theorem dX8_count_113 : decode cX8_count 113 = .ok (.iconst 0, 1) := by decide +kernel
theorem dX8_count_114 : decode cX8_count 114 = .ok (.aload_n 0, 1) := by decide +kernel
theorem dX8_count_115 : decode cX8_count 115 = .ok (.getfield 40, 3) := by decide +kernel
theorem dX8_count_118 : decode cX8_count 118 = .ok (.iconst 1, 1) := by decide +kernel
theorem dX8_count_119 : decode cX8_count 119 = .ok (.baload, 1) := by decide +kernel
theorem dX8_count_120 : decode cX8_count 120 = .ok (.ifCond .eq 7, 3) := by decide +kernel
theorem dX8_count_123 : decode cX8_count 123 = .ok (.iconst 1, 1) := by decide +kernel
theorem dX8_count_124 : decode cX8_count 124 = .ok (.goto 4, 3) := by decide +kernel
theorem dX8_count_127 : decode cX8_count 127 = .ok (.iconst 0, 1) := by decide +kernel
theorem dX8_count_128 : decode cX8_count 128 = .ok (.iadd, 1) := by decide +kernel
theorem dX8_count_129 : decode cX8_count 129 = .ok (.ireturn, 1) := by decide +kernel
theorem dX8_count_130 : decode cX8_count 130 = .ok (.aload_n 0, 1) := by decide +kernel
theorem dX8_count_131 : decode cX8_count 131 = .ok (.getfield 62, 3) := by decide +kernel
theorem dX8_count_134 : decode cX8_count 134 = .ok (.ireturn, 1) := by decide +kernel
theorem dX8_count_135 : decode cX8_count 135 = .ok (.aload_n 0, 1) := by decide +kernel
theorem dX8_count_136 : decode cX8_count 136 = .ok (.getfield 44, 3) := by decide +kernel
theorem dX8_count_139 : decode cX8_count 139 = .ok (.iconst 0, 1) := by decide +kernel
theorem dX8_count_140 : decode cX8_count 140 = .ok (.iaload, 1) := by decide +kernel
theorem dX8_count_141 : decode cX8_count 141 = .ok (.bipush (-4), 2) := by decide +kernel
theorem dX8_count_143 : decode cX8_count 143 = .ok (.if_icmp .ne 8, 3) := by decide +kernel
theorem dX8_count_146 : decode cX8_count 146 = .ok (.bipush (-4), 2) := by decide +kernel
theorem dX8_count_148 : decode cX8_count 148 = .ok (.goto 9, 3) := by decide +kernel
theorem dX8_count_151 : decode cX8_count 151 = .ok (.aload_n 0, 1) := by decide +kernel
theorem dX8_count_152 : decode cX8_count 152 = .ok (.getfield 47, 3) := by decide +kernel
theorem dX8_count_155 : decode cX8_count 155 = .ok (.iconst 0, 1) := by decide +kernel
theorem dX8_count_156 : decode cX8_count 156 = .ok (.iaload, 1) := by decide +kernel
theorem dX8_count_157 : decode cX8_count 157 = .ok (.ireturn, 1) := by decide +kernel
theorem dX8_count_158 : decode cX8_count 158 = .ok (.iload_n 2, 1) := by decide +kernel
theorem dX8_count_159 : decode cX8_count 159 = .ok (.ireturn, 1) := by decide +kernel
theorem dX8_count_160 : decode cX8_count 160 = .ok (.iload_n 3, 1) := by decide +kernel
theorem dX8_count_161 : decode cX8_count 161 = .ok (.ireturn, 1) := by decide +kernel
theorem dX8_count_162 : decode cX8_count 162 = .ok (.iconst (-1), 1) := by decide +kernel
theorem dX8_count_163 : decode cX8_count 163 = .ok (.ireturn, 1) := by decide +kernel
