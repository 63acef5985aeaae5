theorem dX0_init_0 : decode cX0_init 0 = .ok (.aload_n 0, 1) := by decide +kernel
theorem dX0_init_1 : decode cX0_init 1 = .ok (.invokespecial 3, 3) := by decide +kernel
theorem dX0_init_4 : decode cX0_init 4 = .ok (.aload_n 0, 1) := by decide +kernel
theorem dX0_init_5 : decode cX0_init 5 = .ok (.bipush 16, 2) := by decide +kernel
theorem dX0_init_7 : decode cX0_init 7 = .ok (.newarray .int, 2) := by decide +kernel
theorem dX0_init_9 : decode cX0_init 9 = .ok (.putfield 9, 3) := by decide +kernel
theorem dX0_init_12 : decode cX0_init 12 = .ok (.aload_n 0, 1) := by decide +kernel
theorem dX0_init_13 : decode cX0_init 13 = .ok (.bipush 16, 2) := by decide +kernel
theorem dX0_init_15 : decode cX0_init 15 = .ok (.newarray .int, 2) := by decide +kernel
theorem dX0_init_17 : decode cX0_init 17 = .ok (.putfield 15, 3) := by decide +kernel
theorem dX0_init_20 : decode cX0_init 20 = .ok (.aload_n 0, 1) := by decide +kernel
theorem dX0_init_21 : decode cX0_init 21 = .ok (.iconst 0, 1) := by decide +kernel
theorem dX0_init_22 : decode cX0_init 22 = .ok (.putfield 18, 3) := by decide +kernel
theorem dX0_init_25 : decode cX0_init 25 = .ok (.return_, 1) := by decide +kernel
set_option maxRecDepth 20000 in
theorem ggX0_lookThrough_X7_isWord : GoodIn wsX0_lookThrough wsX7_isWord := goodIn_r _ [4] rfl rfl
set_option maxRecDepth 20000 in
theorem gX0_lookThrough_X7_isWord_n22 : GoodIn wsX0_lookThrough (wsX7_isWord) := ggX0_lookThrough_X7_isWord
set_option maxRecDepth 20000 in
theorem ggX0_lookThrough_X0_scoreOf : GoodIn wsX0_lookThrough wsX0_scoreOf := goodIn_r _ [8, 9, 10, 11, 12, 13, 14, 15, 16, 17, 18, 19, 20, 21, 22, 23, 24, 25, 26, 27, 28, 29, 30, 31, 32, 33, 34, 35, 36, 37, 38, 39, 40, 54, 55, 56, 57, 58, 59, 60, 61, 62] rfl rfl
set_option maxRecDepth 20000 in
theorem gX0_lookThrough_X0_scoreOf : GoodIn wsX0_lookThrough (va_wsS RX0 31 yX0_scoreOf wsX0_scoreOf) := goodIn_app (goodIn_of _ (by decide +kernel)) ggX0_lookThrough_X0_scoreOf
set_option maxRecDepth 20000 in
theorem ggX0_lookThrough_X0_enter : GoodIn wsX0_lookThrough wsX0_enter := goodIn_r _ [44, 1, 45, 46, 47, 48, 49, 50, 51, 52, 53] rfl rfl
set_option maxRecDepth 20000 in
theorem gX0_lookThrough_X0_enter : GoodIn wsX0_lookThrough (wsV RX0 35 RX0 yX0_enter wsX0_enter) := goodIn_app (goodIn_of _ (by decide +kernel)) ggX0_lookThrough_X0_enter
theorem dX0_lookThrough_0 : decode cX0_lookThrough 0 = .ok (.aload_n 0, 1) := by decide +kernel
theorem dX0_lookThrough_1 : decode cX0_lookThrough 1 = .ok (.iconst 0, 1) := by decide +kernel
theorem dX0_lookThrough_2 : decode cX0_lookThrough 2 = .ok (.putfield 18, 3) := by decide +kernel
theorem dX0_lookThrough_5 : decode cX0_lookThrough 5 = .ok (.iconst 0, 1) := by decide +kernel
theorem dX0_lookThrough_6 : decode cX0_lookThrough 6 = .ok (.istore 4, 2) := by decide +kernel
theorem dX0_lookThrough_8 : decode cX0_lookThrough 8 = .ok (.iload 4, 2) := by decide +kernel
theorem dX0_lookThrough_10 : decode cX0_lookThrough 10 = .ok (.bipush 16, 2) := by decide +kernel
theorem dX0_lookThrough_12 : decode cX0_lookThrough 12 = .ok (.if_icmp .ge 52, 3) := by decide +kernel
theorem dX0_lookThrough_15 : decode cX0_lookThrough 15 = .ok (.iload_n 2, 1) := by decide +kernel
theorem dX0_lookThrough_16 : decode cX0_lookThrough 16 = .ok (.iload 4, 2) := by decide +kernel
theorem dX0_lookThrough_18 : decode cX0_lookThrough 18 = .ok (.iadd, 1) := by decide +kernel
theorem dX0_lookThrough_19 : decode cX0_lookThrough 19 = .ok (.istore 5, 2) := by decide +kernel
theorem dX0_lookThrough_21 : decode cX0_lookThrough 21 = .ok (.iload 5, 2) := by decide +kernel
theorem dX0_lookThrough_23 : decode cX0_lookThrough 23 = .ok (.invokestatic 22, 3) := by decide +kernel
theorem dX0_lookThrough_26 : decode cX0_lookThrough 26 = .ok (.ifCond .eq 32, 3) := by decide +kernel
theorem dX0_lookThrough_29 : decode cX0_lookThrough 29 = .ok (.aload_n 1, 1) := by decide +kernel
theorem dX0_lookThrough_30 : decode cX0_lookThrough 30 = .ok (.aload_n 1, 1) := by decide +kernel
theorem dX0_lookThrough_31 : decode cX0_lookThrough 31 = .ok (.getfield 26, 3) := by decide +kernel
theorem dX0_lookThrough_34 : decode cX0_lookThrough 34 = .ok (.iload 5, 2) := by decide +kernel
theorem dX0_lookThrough_36 : decode cX0_lookThrough 36 = .ok (.iaload, 1) := by decide +kernel
theorem dX0_lookThrough_37 : decode cX0_lookThrough 37 = .ok (.iconst 1, 1) := by decide +kernel
theorem dX0_lookThrough_38 : decode cX0_lookThrough 38 = .ok (.isub, 1) := by decide +kernel
theorem dX0_lookThrough_39 : decode cX0_lookThrough 39 = .ok (.iload_n 3, 1) := by decide +kernel
theorem dX0_lookThrough_40 : decode cX0_lookThrough 40 = .ok (.invokestatic 31, 3) := by decide +kernel
theorem dX0_lookThrough_43 : decode cX0_lookThrough 43 = .ok (.istore 6, 2) := by decide +kernel
theorem dX0_lookThrough_45 : decode cX0_lookThrough 45 = .ok (.iload 6, 2) := by decide +kernel
theorem dX0_lookThrough_47 : decode cX0_lookThrough 47 = .ok (.ifCond .le 11, 3) := by decide +kernel
theorem dX0_lookThrough_50 : decode cX0_lookThrough 50 = .ok (.aload_n 0, 1) := by decide +kernel
theorem dX0_lookThrough_51 : decode cX0_lookThrough 51 = .ok (.iload 5, 2) := by decide +kernel
theorem dX0_lookThrough_53 : decode cX0_lookThrough 53 = .ok (.iload 6, 2) := by decide +kernel
theorem dX0_lookThrough_55 : decode cX0_lookThrough 55 = .ok (.invokevirtual 35, 3) := by decide +kernel
theorem dX0_lookThrough_58 : decode cX0_lookThrough 58 = .ok (.iinc 4 1, 3) := by decide +kernel
theorem dX0_lookThrough_61 : decode cX0_lookThrough 61 = .ok (.goto (-53), 3) := by decide +kernel
theorem dX0_lookThrough_64 : decode cX0_lookThrough 64 = .ok (.return_, 1) := by decide +kernel
theorem dX0_bestWord_0 : decode cX0_bestWord 0 = .ok (.aload_n 0, 1) := by decide +kernel
theorem dX0_bestWord_1 : decode cX0_bestWord 1 = .ok (.getfield 18, 3) := by decide +kernel
theorem dX0_bestWord_4 : decode cX0_bestWord 4 = .ok (.ifCond .le 12, 3) := by decide +kernel
theorem dX0_bestWord_7 : decode cX0_bestWord 7 = .ok (.aload_n 0, 1) := by decide +kernel
theorem dX0_bestWord_8 : decode cX0_bestWord 8 = .ok (.getfield 9, 3) := by decide +kernel
theorem dX0_bestWord_11 : decode cX0_bestWord 11 = .ok (.iconst 0, 1) := by decide +kernel
theorem dX0_bestWord_12 : decode cX0_bestWord 12 = .ok (.iaload, 1) := by decide +kernel
theorem dX0_bestWord_13 : decode cX0_bestWord 13 = .ok (.goto 4, 3) := by decide +kernel
theorem dX0_bestWord_16 : decode cX0_bestWord 16 = .ok (.iconst 0, 1) := by decide +kernel
theorem dX0_bestWord_17 : decode cX0_bestWord 17 = .ok (.ireturn, 1) := by decide +kernel
set_option maxRecDepth 20000 in
theorem ggX0_scoreOf_X6_ownerOf : GoodIn wsX0_scoreOf wsX6_ownerOf := goodIn_r _ [5, 6, 7, 8, 9, 4, 10, 11, 12, 13, 14, 15, 16, 17, 18, 33, 34, 35, 36, 37, 38, 39, 40, 41] rfl rfl
set_option maxRecDepth 20000 in
theorem gX0_scoreOf_X6_ownerOf : GoodIn wsX0_scoreOf (wsV RX0 39 RX6 yX6_ownerOf wsX6_ownerOf) := goodIn_app (goodIn_of _ (by decide +kernel)) ggX0_scoreOf_X6_ownerOf
set_option maxRecDepth 20000 in
theorem ggX0_scoreOf_X6_isCallAt : GoodIn wsX0_scoreOf wsX6_isCallAt := goodIn_r _ [22, 23, 24, 25, 26, 14, 27, 16, 28, 12, 13, 15, 17, 18, 33, 34, 35, 36, 37, 38, 39, 40, 41] rfl rfl
set_option maxRecDepth 20000 in
theorem gX0_scoreOf_X6_isCallAt : GoodIn wsX0_scoreOf (wsV RX0 43 RX6 yX6_isCallAt wsX6_isCallAt) := goodIn_app (goodIn_of _ (by decide +kernel)) ggX0_scoreOf_X6_isCallAt
set_option maxRecDepth 20000 in
theorem ggX0_scoreOf_X6_isCallInto : GoodIn wsX0_scoreOf wsX6_isCallInto := goodIn_r _ [32, 23, 11, 12, 13, 14, 15, 16, 17, 18, 7, 8, 9, 4, 10, 6, 33, 34, 35, 36, 37, 38, 39, 40, 41] rfl rfl
set_option maxRecDepth 20000 in
theorem gX0_scoreOf_X6_isCallInto : GoodIn wsX0_scoreOf (wsV RX0 46 RX6 yX6_isCallInto wsX6_isCallInto) := goodIn_app (goodIn_of _ (by decide +kernel)) ggX0_scoreOf_X6_isCallInto
theorem dX0_scoreOf_0 : decode cX0_scoreOf 0 = .ok (.aload_n 0, 1) := by decide +kernel
theorem dX0_scoreOf_1 : decode cX0_scoreOf 1 = .ok (.iload_n 1, 1) := by decide +kernel
theorem dX0_scoreOf_2 : decode cX0_scoreOf 2 = .ok (.invokevirtual 39, 3) := by decide +kernel
theorem dX0_scoreOf_5 : decode cX0_scoreOf 5 = .ok (.bipush (-4), 2) := by decide +kernel
theorem dX0_scoreOf_7 : decode cX0_scoreOf 7 = .ok (.if_icmp .ne 5, 3) := by decide +kernel
theorem dX0_scoreOf_10 : decode cX0_scoreOf 10 = .ok (.iconst 0, 1) := by decide +kernel
theorem dX0_scoreOf_11 : decode cX0_scoreOf 11 = .ok (.ireturn, 1) := by decide +kernel
theorem dX0_scoreOf_12 : decode cX0_scoreOf 12 = .ok (.iconst 1, 1) := by decide +kernel
theorem dX0_scoreOf_13 : decode cX0_scoreOf 13 = .ok (.istore_n 3, 1) := by decide +kernel
theorem dX0_scoreOf_14 : decode cX0_scoreOf 14 = .ok (.aload_n 0, 1) := by decide +kernel
theorem dX0_scoreOf_15 : decode cX0_scoreOf 15 = .ok (.iload_n 1, 1) := by decide +kernel
theorem dX0_scoreOf_16 : decode cX0_scoreOf 16 = .ok (.invokevirtual 43, 3) := by decide +kernel
theorem dX0_scoreOf_19 : decode cX0_scoreOf 19 = .ok (.ifCond .eq 6, 3) := by decide +kernel
theorem dX0_scoreOf_22 : decode cX0_scoreOf 22 = .ok (.iinc 3 2, 3) := by decide +kernel
theorem dX0_scoreOf_25 : decode cX0_scoreOf 25 = .ok (.iload_n 2, 1) := by decide +kernel
theorem dX0_scoreOf_26 : decode cX0_scoreOf 26 = .ok (.bipush (-4), 2) := by decide +kernel
theorem dX0_scoreOf_28 : decode cX0_scoreOf 28 = .ok (.if_icmp .eq 15, 3) := by decide +kernel
theorem dX0_scoreOf_31 : decode cX0_scoreOf 31 = .ok (.aload_n 0, 1) := by decide +kernel
theorem dX0_scoreOf_32 : decode cX0_scoreOf 32 = .ok (.iload_n 1, 1) := by decide +kernel
theorem dX0_scoreOf_33 : decode cX0_scoreOf 33 = .ok (.iload_n 2, 1) := by decide +kernel
theorem dX0_scoreOf_34 : decode cX0_scoreOf 34 = .ok (.invokevirtual 46, 3) := by decide +kernel
theorem dX0_scoreOf_37 : decode cX0_scoreOf 37 = .ok (.ifCond .eq 6, 3) := by decide +kernel
theorem dX0_scoreOf_40 : decode cX0_scoreOf 40 = .ok (.iinc 3 4, 3) := by decide +kernel
theorem dX0_scoreOf_43 : decode cX0_scoreOf 43 = .ok (.iload_n 3, 1) := by decide +kernel
theorem dX0_scoreOf_44 : decode cX0_scoreOf 44 = .ok (.ireturn, 1) := by decide +kernel
theorem dX0_enter_0 : decode cX0_enter 0 = .ok (.aload_n 0, 1) := by decide +kernel
theorem dX0_enter_1 : decode cX0_enter 1 = .ok (.getfield 18, 3) := by decide +kernel
theorem dX0_enter_4 : decode cX0_enter 4 = .ok (.bipush 15, 2) := by decide +kernel
theorem dX0_enter_6 : decode cX0_enter 6 = .ok (.invokestatic 50, 3) := by decide +kernel
theorem dX0_enter_9 : decode cX0_enter 9 = .ok (.istore_n 3, 1) := by decide +kernel
theorem dX0_enter_10 : decode cX0_enter 10 = .ok (.iload_n 3, 1) := by decide +kernel
theorem dX0_enter_11 : decode cX0_enter 11 = .ok (.ifCond .le 49, 3) := by decide +kernel
theorem dX0_enter_14 : decode cX0_enter 14 = .ok (.aload_n 0, 1) := by decide +kernel
theorem dX0_enter_15 : decode cX0_enter 15 = .ok (.getfield 15, 3) := by decide +kernel
theorem dX0_enter_18 : decode cX0_enter 18 = .ok (.iload_n 3, 1) := by decide +kernel
theorem dX0_enter_19 : decode cX0_enter 19 = .ok (.iconst 1, 1) := by decide +kernel
theorem dX0_enter_20 : decode cX0_enter 20 = .ok (.isub, 1) := by decide +kernel
theorem dX0_enter_21 : decode cX0_enter 21 = .ok (.iaload, 1) := by decide +kernel
theorem dX0_enter_22 : decode cX0_enter 22 = .ok (.iload_n 2, 1) := by decide +kernel
theorem dX0_enter_23 : decode cX0_enter 23 = .ok (.if_icmp .ge 37, 3) := by decide +kernel
theorem dX0_enter_26 : decode cX0_enter 26 = .ok (.aload_n 0, 1) := by decide +kernel
theorem dX0_enter_27 : decode cX0_enter 27 = .ok (.getfield 9, 3) := by decide +kernel
theorem dX0_enter_30 : decode cX0_enter 30 = .ok (.iload_n 3, 1) := by decide +kernel
theorem dX0_enter_31 : decode cX0_enter 31 = .ok (.aload_n 0, 1) := by decide +kernel
theorem dX0_enter_32 : decode cX0_enter 32 = .ok (.getfield 9, 3) := by decide +kernel
theorem dX0_enter_35 : decode cX0_enter 35 = .ok (.iload_n 3, 1) := by decide +kernel
theorem dX0_enter_36 : decode cX0_enter 36 = .ok (.iconst 1, 1) := by decide +kernel
theorem dX0_enter_37 : decode cX0_enter 37 = .ok (.isub, 1) := by decide +kernel
theorem dX0_enter_38 : decode cX0_enter 38 = .ok (.iaload, 1) := by decide +kernel
theorem dX0_enter_39 : decode cX0_enter 39 = .ok (.iastore, 1) := by decide +kernel
theorem dX0_enter_40 : decode cX0_enter 40 = .ok (.aload_n 0, 1) := by decide +kernel
theorem dX0_enter_41 : decode cX0_enter 41 = .ok (.getfield 15, 3) := by decide +kernel
theorem dX0_enter_44 : decode cX0_enter 44 = .ok (.iload_n 3, 1) := by decide +kernel
theorem dX0_enter_45 : decode cX0_enter 45 = .ok (.aload_n 0, 1) := by decide +kernel
theorem dX0_enter_46 : decode cX0_enter 46 = .ok (.getfield 15, 3) := by decide +kernel
theorem dX0_enter_49 : decode cX0_enter 49 = .ok (.iload_n 3, 1) := by decide +kernel
theorem dX0_enter_50 : decode cX0_enter 50 = .ok (.iconst 1, 1) := by decide +kernel
theorem dX0_enter_51 : decode cX0_enter 51 = .ok (.isub, 1) := by decide +kernel
theorem dX0_enter_52 : decode cX0_enter 52 = .ok (.iaload, 1) := by decide +kernel
theorem dX0_enter_53 : decode cX0_enter 53 = .ok (.iastore, 1) := by decide +kernel
theorem dX0_enter_54 : decode cX0_enter 54 = .ok (.iinc 3 (-1), 3) := by decide +kernel
theorem dX0_enter_57 : decode cX0_enter 57 = .ok (.goto (-47), 3) := by decide +kernel
theorem dX0_enter_60 : decode cX0_enter 60 = .ok (.aload_n 0, 1) := by decide +kernel
theorem dX0_enter_61 : decode cX0_enter 61 = .ok (.getfield 9, 3) := by decide +kernel
theorem dX0_enter_64 : decode cX0_enter 64 = .ok (.iload_n 3, 1) := by decide +kernel
theorem dX0_enter_65 : decode cX0_enter 65 = .ok (.iload_n 1, 1) := by decide +kernel
theorem dX0_enter_66 : decode cX0_enter 66 = .ok (.iastore, 1) := by decide +kernel
theorem dX0_enter_67 : decode cX0_enter 67 = .ok (.aload_n 0, 1) := by decide +kernel
theorem dX0_enter_68 : decode cX0_enter 68 = .ok (.getfield 15, 3) := by decide +kernel
theorem dX0_enter_71 : decode cX0_enter 71 = .ok (.iload_n 3, 1) := by decide +kernel
theorem dX0_enter_72 : decode cX0_enter 72 = .ok (.iload_n 2, 1) := by decide +kernel
theorem dX0_enter_73 : decode cX0_enter 73 = .ok (.iastore, 1) := by decide +kernel
theorem dX0_enter_74 : decode cX0_enter 74 = .ok (.aload_n 0, 1) := by decide +kernel
theorem dX0_enter_75 : decode cX0_enter 75 = .ok (.aload_n 0, 1) := by decide +kernel
theorem dX0_enter_76 : decode cX0_enter 76 = .ok (.getfield 18, 3) := by decide +kernel
theorem dX0_enter_79 : decode cX0_enter 79 = .ok (.iconst 1, 1) := by decide +kernel
theorem dX0_enter_80 : decode cX0_enter 80 = .ok (.iadd, 1) := by decide +kernel
theorem dX0_enter_81 : decode cX0_enter 81 = .ok (.bipush 16, 2) := by decide +kernel
theorem dX0_enter_83 : decode cX0_enter 83 = .ok (.invokestatic 50, 3) := by decide +kernel
theorem dX0_enter_86 : decode cX0_enter 86 = .ok (.putfield 18, 3) := by decide +kernel
theorem dX0_enter_89 : decode cX0_enter 89 = .ok (.return_, 1) := by decide +kernel
theorem dX1_init_0 : decode cX1_init 0 = .ok (.aload_n 0, 1) := by decide +kernel
theorem dX1_init_1 : decode cX1_init 1 = .ok (.invokespecial 3, 3) := by decide +kernel
theorem dX1_init_4 : decode cX1_init 4 = .ok (.aload_n 0, 1) := by decide +kernel
theorem dX1_init_5 : decode cX1_init 5 = .ok (.bipush 14, 2) := by decide +kernel
theorem dX1_init_7 : decode cX1_init 7 = .ok (.newarray .int, 2) := by decide +kernel
theorem dX1_init_9 : decode cX1_init 9 = .ok (.putfield 11, 3) := by decide +kernel
theorem dX1_init_12 : decode cX1_init 12 = .ok (.aload_n 0, 1) := by decide +kernel
theorem dX1_init_13 : decode cX1_init 13 = .ok (.bipush 42, 2) := by decide +kernel
theorem dX1_init_15 : decode cX1_init 15 = .ok (.newarray .int, 2) := by decide +kernel
theorem dX1_init_17 : decode cX1_init 17 = .ok (.putfield 15, 3) := by decide +kernel
theorem dX1_init_20 : decode cX1_init 20 = .ok (.aload_n 0, 1) := by decide +kernel
theorem dX1_init_21 : decode cX1_init 21 = .ok (.iconst 0, 1) := by decide +kernel
theorem dX1_init_22 : decode cX1_init 22 = .ok (.putfield 18, 3) := by decide +kernel
theorem dX1_init_25 : decode cX1_init 25 = .ok (.return_, 1) := by decide +kernel
theorem dX1_base_0 : decode cX1_base 0 = .ok (.aload_n 0, 1) := by decide +kernel
theorem dX1_base_1 : decode cX1_base 1 = .ok (.getfield 11, 3) := by decide +kernel
theorem dX1_base_4 : decode cX1_base 4 = .ok (.iconst 0, 1) := by decide +kernel
theorem dX1_base_5 : decode cX1_base 5 = .ok (.iaload, 1) := by decide +kernel
theorem dX1_base_6 : decode cX1_base 6 = .ok (.ireturn, 1) := by decide +kernel
theorem dX1_off_0 : decode cX1_off 0 = .ok (.aload_n 0, 1) := by decide +kernel
theorem dX1_off_1 : decode cX1_off 1 = .ok (.getfield 11, 3) := by decide +kernel
theorem dX1_off_4 : decode cX1_off 4 = .ok (.iconst 1, 1) := by decide +kernel
theorem dX1_off_5 : decode cX1_off 5 = .ok (.iaload, 1) := by decide +kernel
theorem dX1_off_6 : decode cX1_off 6 = .ok (.ireturn, 1) := by decide +kernel
set_option maxRecDepth 20000 in
theorem ggX1_which_X7_isRegister : GoodIn wsX1_which wsX7_isRegister := goodIn_r _ [4] rfl rfl
set_option maxRecDepth 20000 in
theorem gX1_which_X7_isRegister_n22 : GoodIn wsX1_which (wsX7_isRegister) := ggX1_which_X7_isRegister
theorem dX1_which_0 : decode cX1_which 0 = .ok (.iload_n 1, 1) := by decide +kernel
theorem dX1_which_1 : decode cX1_which 1 = .ok (.invokestatic 22, 3) := by decide +kernel
theorem dX1_which_4 : decode cX1_which 4 = .ok (.ifCond .eq 14, 3) := by decide +kernel
theorem dX1_which_7 : decode cX1_which 7 = .ok (.aload_n 0, 1) := by decide +kernel
theorem dX1_which_8 : decode cX1_which 8 = .ok (.getfield 11, 3) := by decide +kernel
theorem dX1_which_11 : decode cX1_which 11 = .ok (.iconst 2, 1) := by decide +kernel
theorem dX1_which_12 : decode cX1_which 12 = .ok (.iload_n 1, 1) := by decide +kernel
theorem dX1_which_13 : decode cX1_which 13 = .ok (.iadd, 1) := by decide +kernel
theorem dX1_which_14 : decode cX1_which 14 = .ok (.iaload, 1) := by decide +kernel
theorem dX1_which_15 : decode cX1_which 15 = .ok (.goto 4, 3) := by decide +kernel
theorem dX1_which_18 : decode cX1_which 18 = .ok (.iconst 0, 1) := by decide +kernel
theorem dX1_which_19 : decode cX1_which 19 = .ok (.ireturn, 1) := by decide +kernel
set_option maxRecDepth 20000 in
theorem ggX1_number_X7_isRegister : GoodIn wsX1_number wsX7_isRegister := goodIn_r _ [4] rfl rfl
set_option maxRecDepth 20000 in
theorem gX1_number_X7_isRegister_n22 : GoodIn wsX1_number (wsX7_isRegister) := ggX1_number_X7_isRegister
theorem dX1_number_0 : decode cX1_number 0 = .ok (.iload_n 1, 1) := by decide +kernel
theorem dX1_number_1 : decode cX1_number 1 = .ok (.invokestatic 22, 3) := by decide +kernel
theorem dX1_number_4 : decode cX1_number 4 = .ok (.ifCond .eq 15, 3) := by decide +kernel
theorem dX1_number_7 : decode cX1_number 7 = .ok (.aload_n 0, 1) := by decide +kernel
theorem dX1_number_8 : decode cX1_number 8 = .ok (.getfield 11, 3) := by decide +kernel
theorem dX1_number_11 : decode cX1_number 11 = .ok (.bipush 8, 2) := by decide +kernel
theorem dX1_number_13 : decode cX1_number 13 = .ok (.iload_n 1, 1) := by decide +kernel
theorem dX1_number_14 : decode cX1_number 14 = .ok (.iadd, 1) := by decide +kernel
theorem dX1_number_15 : decode cX1_number 15 = .ok (.iaload, 1) := by decide +kernel
theorem dX1_number_16 : decode cX1_number 16 = .ok (.goto 4, 3) := by decide +kernel
theorem dX1_number_19 : decode cX1_number 19 = .ok (.iconst 0, 1) := by decide +kernel
theorem dX1_number_20 : decode cX1_number 20 = .ok (.ireturn, 1) := by decide +kernel
set_option maxRecDepth 20000 in
theorem ggX1_goTo_X1_becomeFirst : GoodIn wsX1_goTo wsX1_becomeFirst := goodIn_r _ [6, 7, 8, 9, 10, 11, 12, 13, 14, 5, 15, 16, 17, 18, 44, 45, 46] rfl rfl
set_option maxRecDepth 20000 in
theorem gX1_goTo_X1_becomeFirst : GoodIn wsX1_goTo (wsV RX1 26 RX1 yX1_becomeFirst wsX1_becomeFirst) := goodIn_app (goodIn_of _ (by decide +kernel)) ggX1_goTo_X1_becomeFirst
set_option maxRecDepth 20000 in
theorem ggX1_goTo_X3_at : GoodIn wsX1_goTo wsX3_at := goodIn_r _ [23, 24, 25, 26, 53, 54, 55] rfl rfl
set_option maxRecDepth 20000 in
theorem gX1_goTo_X3_at : GoodIn wsX1_goTo (wsV RX1 35 RX3 yX3_at wsX3_at) := goodIn_app (goodIn_of _ (by decide +kernel)) ggX1_goTo_X3_at
set_option maxRecDepth 20000 in
theorem ggX1_goTo_X1_obey : GoodIn wsX1_goTo wsX1_obey := goodIn_r _ [30, 7, 12, 13, 14, 5, 15, 16, 17, 18, 31, 32, 33, 34, 1, 35, 36, 37, 38, 39, 40, 41, 42, 43, 2, 3, 4, 6, 8, 9, 10, 11, 44, 45, 46] rfl rfl
set_option maxRecDepth 20000 in
theorem gX1_goTo_X1_obey : GoodIn wsX1_goTo (wsV RX1 47 RX1 yX1_obey wsX1_obey) := goodIn_app (goodIn_of _ (by decide +kernel)) ggX1_goTo_X1_obey
theorem dX1_goTo_0 : decode cX1_goTo 0 = .ok (.aload_n 0, 1) := by decide +kernel
theorem dX1_goTo_1 : decode cX1_goTo 1 = .ok (.iconst 0, 1) := by decide +kernel
theorem dX1_goTo_2 : decode cX1_goTo 2 = .ok (.putfield 18, 3) := by decide +kernel
theorem dX1_goTo_5 : decode cX1_goTo 5 = .ok (.aload_n 0, 1) := by decide +kernel
theorem dX1_goTo_6 : decode cX1_goTo 6 = .ok (.invokevirtual 26, 3) := by decide +kernel
theorem dX1_goTo_9 : decode cX1_goTo 9 = .ok (.aload_n 1, 1) := by decide +kernel
theorem dX1_goTo_10 : decode cX1_goTo 10 = .ok (.getfield 29, 3) := by decide +kernel
theorem dX1_goTo_13 : decode cX1_goTo 13 = .ok (.iload_n 2, 1) := by decide +kernel
theorem dX1_goTo_14 : decode cX1_goTo 14 = .ok (.iconst 0, 1) := by decide +kernel
theorem dX1_goTo_15 : decode cX1_goTo 15 = .ok (.invokevirtual 35, 3) := by decide +kernel
theorem dX1_goTo_18 : decode cX1_goTo 18 = .ok (.istore 4, 2) := by decide +kernel
theorem dX1_goTo_20 : decode cX1_goTo 20 = .ok (.iconst 0, 1) := by decide +kernel
theorem dX1_goTo_21 : decode cX1_goTo 21 = .ok (.istore 5, 2) := by decide +kernel
theorem dX1_goTo_23 : decode cX1_goTo 23 = .ok (.iload 5, 2) := by decide +kernel
theorem dX1_goTo_25 : decode cX1_goTo 25 = .ok (.aload_n 1, 1) := by decide +kernel
theorem dX1_goTo_26 : decode cX1_goTo 26 = .ok (.getfield 41, 3) := by decide +kernel
theorem dX1_goTo_29 : decode cX1_goTo 29 = .ok (.getfield 44, 3) := by decide +kernel
theorem dX1_goTo_32 : decode cX1_goTo 32 = .ok (.if_icmp .ge 91, 3) := by decide +kernel
theorem dX1_goTo_35 : decode cX1_goTo 35 = .ok (.aload_n 1, 1) := by decide +kernel
theorem dX1_goTo_36 : decode cX1_goTo 36 = .ok (.getfield 41, 3) := by decide +kernel
theorem dX1_goTo_39 : decode cX1_goTo 39 = .ok (.iload 5, 2) := by decide +kernel
theorem dX1_goTo_41 : decode cX1_goTo 41 = .ok (.iconst 3, 1) := by decide +kernel
theorem dX1_goTo_42 : decode cX1_goTo 42 = .ok (.invokevirtual 35, 3) := by decide +kernel
theorem dX1_goTo_45 : decode cX1_goTo 45 = .ok (.iload_n 2, 1) := by decide +kernel
theorem dX1_goTo_46 : decode cX1_goTo 46 = .ok (.if_icmp .eq 6, 3) := by decide +kernel
theorem dX1_goTo_49 : decode cX1_goTo 49 = .ok (.goto 68, 3) := by decide +kernel
theorem dX1_goTo_52 : decode cX1_goTo 52 = .ok (.aload_n 1, 1) := by decide +kernel
theorem dX1_goTo_53 : decode cX1_goTo 53 = .ok (.getfield 41, 3) := by decide +kernel
theorem dX1_goTo_56 : decode cX1_goTo 56 = .ok (.iload 5, 2) := by decide +kernel
theorem dX1_goTo_58 : decode cX1_goTo 58 = .ok (.iconst 0, 1) := by decide +kernel
theorem dX1_goTo_59 : decode cX1_goTo 59 = .ok (.invokevirtual 35, 3) := by decide +kernel
theorem dX1_goTo_62 : decode cX1_goTo 62 = .ok (.istore 6, 2) := by decide +kernel
theorem dX1_goTo_64 : decode cX1_goTo 64 = .ok (.iload 6, 2) := by decide +kernel
theorem dX1_goTo_66 : decode cX1_goTo 66 = .ok (.ifCond .ne 25, 3) := by decide +kernel
theorem dX1_goTo_69 : decode cX1_goTo 69 = .ok (.iload 4, 2) := by decide +kernel
theorem dX1_goTo_71 : decode cX1_goTo 71 = .ok (.aload_n 1, 1) := by decide +kernel
theorem dX1_goTo_72 : decode cX1_goTo 72 = .ok (.getfield 41, 3) := by decide +kernel
theorem dX1_goTo_75 : decode cX1_goTo 75 = .ok (.iload 5, 2) := by decide +kernel
theorem dX1_goTo_77 : decode cX1_goTo 77 = .ok (.iconst 2, 1) := by decide +kernel
theorem dX1_goTo_78 : decode cX1_goTo 78 = .ok (.invokevirtual 35, 3) := by decide +kernel
theorem dX1_goTo_81 : decode cX1_goTo 81 = .ok (.iadd, 1) := by decide +kernel
theorem dX1_goTo_82 : decode cX1_goTo 82 = .ok (.istore 4, 2) := by decide +kernel
theorem dX1_goTo_84 : decode cX1_goTo 84 = .ok (.iload 4, 2) := by decide +kernel
theorem dX1_goTo_86 : decode cX1_goTo 86 = .ok (.iload_n 3, 1) := by decide +kernel
theorem dX1_goTo_87 : decode cX1_goTo 87 = .ok (.if_icmp .le 30, 3) := by decide +kernel
theorem dX1_goTo_90 : decode cX1_goTo 90 = .ok (.return_, 1) := by decide +kernel
theorem dX1_goTo_91 : decode cX1_goTo 91 = .ok (.aload_n 0, 1) := by decide +kernel
theorem dX1_goTo_92 : decode cX1_goTo 92 = .ok (.iload 6, 2) := by decide +kernel
theorem dX1_goTo_94 : decode cX1_goTo 94 = .ok (.aload_n 1, 1) := by decide +kernel
theorem dX1_goTo_95 : decode cX1_goTo 95 = .ok (.getfield 41, 3) := by decide +kernel
theorem dX1_goTo_98 : decode cX1_goTo 98 = .ok (.iload 5, 2) := by decide +kernel
theorem dX1_goTo_100 : decode cX1_goTo 100 = .ok (.iconst 1, 1) := by decide +kernel
theorem dX1_goTo_101 : decode cX1_goTo 101 = .ok (.invokevirtual 35, 3) := by decide +kernel
theorem dX1_goTo_104 : decode cX1_goTo 104 = .ok (.aload_n 1, 1) := by decide +kernel
theorem dX1_goTo_105 : decode cX1_goTo 105 = .ok (.getfield 41, 3) := by decide +kernel
theorem dX1_goTo_108 : decode cX1_goTo 108 = .ok (.iload 5, 2) := by decide +kernel
theorem dX1_goTo_110 : decode cX1_goTo 110 = .ok (.iconst 2, 1) := by decide +kernel
theorem dX1_goTo_111 : decode cX1_goTo 111 = .ok (.invokevirtual 35, 3) := by decide +kernel
theorem dX1_goTo_114 : decode cX1_goTo 114 = .ok (.invokevirtual 47, 3) := by decide +kernel
theorem dX1_goTo_117 : decode cX1_goTo 117 = .ok (.iinc 5 1, 3) := by decide +kernel
theorem dX1_goTo_120 : decode cX1_goTo 120 = .ok (.goto (-97), 3) := by decide +kernel
theorem dX1_goTo_123 : decode cX1_goTo 123 = .ok (.return_, 1) := by decide +kernel
set_option maxRecDepth 20000 in
theorem ggX1_obey_X1_becomes : GoodIn wsX1_obey wsX1_becomes := goodIn_r _ [6, 1, 7, 8, 9, 32, 33, 34] rfl rfl
set_option maxRecDepth 20000 in
theorem gX1_obey_X1_becomes : GoodIn wsX1_obey (wsV RX1 51 RX1 yX1_becomes wsX1_becomes) := goodIn_app (goodIn_of _ (by decide +kernel)) ggX1_obey_X1_becomes
set_option maxRecDepth 20000 in
theorem ggX1_obey_X1_layAside : GoodIn wsX1_obey wsX1_layAside := goodIn_r _ [13, 14, 1, 15, 16, 17, 18, 19, 32, 33, 34] rfl rfl
set_option maxRecDepth 20000 in
theorem gX1_obey_X1_layAside : GoodIn wsX1_obey (wsV RX1 54 RX1 yX1_layAside wsX1_layAside) := goodIn_app (goodIn_of _ (by decide +kernel)) ggX1_obey_X1_layAside
set_option maxRecDepth 20000 in
theorem ggX1_obey_X1_takeBack : GoodIn wsX1_obey wsX1_takeBack := goodIn_r _ [23, 14, 15, 1, 16, 17, 18, 19, 24, 25, 26, 5, 27, 28, 29, 30, 31, 2, 3, 4, 6, 7, 8, 9, 32, 33, 34] rfl rfl
set_option maxRecDepth 20000 in
theorem gX1_obey_X1_takeBack : GoodIn wsX1_obey (wsV RX1 57 RX1 yX1_takeBack wsX1_takeBack) := goodIn_app (goodIn_of _ (by decide +kernel)) ggX1_obey_X1_takeBack
theorem dX1_obey_0 : decode cX1_obey 0 = .ok (.iload_n 1, 1) := by decide +kernel
theorem dX1_obey_1 : decode cX1_obey 1 = .ok (.tableswitch 114 1 7 #[43, 60, 70, 80, 90, 100, 107], 43) := by decide +kernel
theorem dX1_obey_44 : decode cX1_obey 44 = .ok (.aload_n 0, 1) := by decide +kernel
theorem dX1_obey_45 : decode cX1_obey 45 = .ok (.getfield 11, 3) := by decide +kernel
theorem dX1_obey_48 : decode cX1_obey 48 = .ok (.iconst 0, 1) := by decide +kernel
theorem dX1_obey_49 : decode cX1_obey 49 = .ok (.iload_n 2, 1) := by decide +kernel
theorem dX1_obey_50 : decode cX1_obey 50 = .ok (.iastore, 1) := by decide +kernel
theorem dX1_obey_51 : decode cX1_obey 51 = .ok (.aload_n 0, 1) := by decide +kernel
theorem dX1_obey_52 : decode cX1_obey 52 = .ok (.getfield 11, 3) := by decide +kernel
theorem dX1_obey_55 : decode cX1_obey 55 = .ok (.iconst 1, 1) := by decide +kernel
theorem dX1_obey_56 : decode cX1_obey 56 = .ok (.iload_n 3, 1) := by decide +kernel
theorem dX1_obey_57 : decode cX1_obey 57 = .ok (.iastore, 1) := by decide +kernel
theorem dX1_obey_58 : decode cX1_obey 58 = .ok (.goto 57, 3) := by decide +kernel
theorem dX1_obey_61 : decode cX1_obey 61 = .ok (.aload_n 0, 1) := by decide +kernel
theorem dX1_obey_62 : decode cX1_obey 62 = .ok (.getfield 11, 3) := by decide +kernel
theorem dX1_obey_65 : decode cX1_obey 65 = .ok (.iconst 1, 1) := by decide +kernel
theorem dX1_obey_66 : decode cX1_obey 66 = .ok (.iload_n 3, 1) := by decide +kernel
theorem dX1_obey_67 : decode cX1_obey 67 = .ok (.iastore, 1) := by decide +kernel
theorem dX1_obey_68 : decode cX1_obey 68 = .ok (.goto 47, 3) := by decide +kernel
theorem dX1_obey_71 : decode cX1_obey 71 = .ok (.aload_n 0, 1) := by decide +kernel
theorem dX1_obey_72 : decode cX1_obey 72 = .ok (.iload_n 2, 1) := by decide +kernel
theorem dX1_obey_73 : decode cX1_obey 73 = .ok (.iconst 1, 1) := by decide +kernel
theorem dX1_obey_74 : decode cX1_obey 74 = .ok (.iload_n 3, 1) := by decide +kernel
theorem dX1_obey_75 : decode cX1_obey 75 = .ok (.invokevirtual 51, 3) := by decide +kernel
theorem dX1_obey_78 : decode cX1_obey 78 = .ok (.goto 37, 3) := by decide +kernel
theorem dX1_obey_81 : decode cX1_obey 81 = .ok (.aload_n 0, 1) := by decide +kernel
theorem dX1_obey_82 : decode cX1_obey 82 = .ok (.iload_n 2, 1) := by decide +kernel
theorem dX1_obey_83 : decode cX1_obey 83 = .ok (.iconst 0, 1) := by decide +kernel
theorem dX1_obey_84 : decode cX1_obey 84 = .ok (.iconst 0, 1) := by decide +kernel
theorem dX1_obey_85 : decode cX1_obey 85 = .ok (.invokevirtual 51, 3) := by decide +kernel
theorem dX1_obey_88 : decode cX1_obey 88 = .ok (.goto 27, 3) := by decide +kernel
theorem dX1_obey_91 : decode cX1_obey 91 = .ok (.aload_n 0, 1) := by decide +kernel
theorem dX1_obey_92 : decode cX1_obey 92 = .ok (.iload_n 2, 1) := by decide +kernel
theorem dX1_obey_93 : decode cX1_obey 93 = .ok (.iconst 2, 1) := by decide +kernel
theorem dX1_obey_94 : decode cX1_obey 94 = .ok (.iload_n 3, 1) := by decide +kernel
theorem dX1_obey_95 : decode cX1_obey 95 = .ok (.invokevirtual 51, 3) := by decide +kernel
theorem dX1_obey_98 : decode cX1_obey 98 = .ok (.goto 17, 3) := by decide +kernel
theorem dX1_obey_101 : decode cX1_obey 101 = .ok (.aload_n 0, 1) := by decide +kernel
theorem dX1_obey_102 : decode cX1_obey 102 = .ok (.invokevirtual 54, 3) := by decide +kernel
theorem dX1_obey_105 : decode cX1_obey 105 = .ok (.goto 10, 3) := by decide +kernel
theorem dX1_obey_108 : decode cX1_obey 108 = .ok (.aload_n 0, 1) := by decide +kernel
theorem dX1_obey_109 : decode cX1_obey 109 = .ok (.invokevirtual 57, 3) := by decide +kernel
theorem dX1_obey_112 : decode cX1_obey 112 = .ok (.goto 3, 3) := by decide +kernel
theorem dX1_obey_115 : decode cX1_obey 115 = .ok (.return_, 1) := by decide +kernel
set_option maxRecDepth 20000 in
theorem ggX1_becomeFirst_J7_fill_53178 : GoodIn wsX1_becomeFirst wsJ7_fill_53178 := goodIn_r _ [5] rfl rfl
set_option maxRecDepth 20000 in
theorem gX1_becomeFirst_J7_fill_53178 : GoodIn wsX1_becomeFirst (va_wsS RX1 60 yJ7_fill_53178 wsJ7_fill_53178) := goodIn_app (goodIn_of _ (by decide +kernel)) ggX1_becomeFirst_J7_fill_53178
set_option maxRecDepth 20000 in
theorem ggX1_becomeFirst_X1_becomes : GoodIn wsX1_becomeFirst wsX1_becomes := goodIn_r _ [10, 1, 11, 12, 13, 14, 15, 16] rfl rfl
set_option maxRecDepth 20000 in
theorem gX1_becomeFirst_X1_becomes : GoodIn wsX1_becomeFirst (wsV RX1 51 RX1 yX1_becomes wsX1_becomes) := goodIn_app (goodIn_of _ (by decide +kernel)) ggX1_becomeFirst_X1_becomes
theorem dX1_becomeFirst_0 : decode cX1_becomeFirst 0 = .ok (.aload_n 0, 1) := by decide +kernel
theorem dX1_becomeFirst_1 : decode cX1_becomeFirst 1 = .ok (.getfield 11, 3) := by decide +kernel
theorem dX1_becomeFirst_4 : decode cX1_becomeFirst 4 = .ok (.iconst 0, 1) := by decide +kernel
theorem dX1_becomeFirst_5 : decode cX1_becomeFirst 5 = .ok (.invokestatic 60, 3) := by decide +kernel
theorem dX1_becomeFirst_8 : decode cX1_becomeFirst 8 = .ok (.aload_n 0, 1) := by decide +kernel
theorem dX1_becomeFirst_9 : decode cX1_becomeFirst 9 = .ok (.getfield 11, 3) := by decide +kernel
theorem dX1_becomeFirst_12 : decode cX1_becomeFirst 12 = .ok (.iconst 0, 1) := by decide +kernel
theorem dX1_becomeFirst_13 : decode cX1_becomeFirst 13 = .ok (.iconst 4, 1) := by decide +kernel
theorem dX1_becomeFirst_14 : decode cX1_becomeFirst 14 = .ok (.iastore, 1) := by decide +kernel
theorem dX1_becomeFirst_15 : decode cX1_becomeFirst 15 = .ok (.aload_n 0, 1) := by decide +kernel
theorem dX1_becomeFirst_16 : decode cX1_becomeFirst 16 = .ok (.getfield 11, 3) := by decide +kernel
theorem dX1_becomeFirst_19 : decode cX1_becomeFirst 19 = .ok (.iconst 1, 1) := by decide +kernel
theorem dX1_becomeFirst_20 : decode cX1_becomeFirst 20 = .ok (.iconst 1, 1) := by decide +kernel
theorem dX1_becomeFirst_21 : decode cX1_becomeFirst 21 = .ok (.iastore, 1) := by decide +kernel
theorem dX1_becomeFirst_22 : decode cX1_becomeFirst 22 = .ok (.aload_n 0, 1) := by decide +kernel
theorem dX1_becomeFirst_23 : decode cX1_becomeFirst 23 = .ok (.iconst 5, 1) := by decide +kernel
theorem dX1_becomeFirst_24 : decode cX1_becomeFirst 24 = .ok (.iconst 1, 1) := by decide +kernel
theorem dX1_becomeFirst_25 : decode cX1_becomeFirst 25 = .ok (.iconst 1, 1) := by decide +kernel
theorem dX1_becomeFirst_26 : decode cX1_becomeFirst 26 = .ok (.invokevirtual 51, 3) := by decide +kernel
theorem dX1_becomeFirst_29 : decode cX1_becomeFirst 29 = .ok (.return_, 1) := by decide +kernel
set_option maxRecDepth 20000 in
theorem ggX1_becomes_X7_isRegister : GoodIn wsX1_becomes wsX7_isRegister := goodIn_r _ [4] rfl rfl
set_option maxRecDepth 20000 in
theorem gX1_becomes_X7_isRegister_n22 : GoodIn wsX1_becomes (wsX7_isRegister) := ggX1_becomes_X7_isRegister
theorem dX1_becomes_0 : decode cX1_becomes 0 = .ok (.iload_n 1, 1) := by decide +kernel
theorem dX1_becomes_1 : decode cX1_becomes 1 = .ok (.invokestatic 22, 3) := by decide +kernel
theorem dX1_becomes_4 : decode cX1_becomes 4 = .ok (.ifCond .eq 22, 3) := by decide +kernel
theorem dX1_becomes_7 : decode cX1_becomes 7 = .ok (.aload_n 0, 1) := by decide +kernel
theorem dX1_becomes_8 : decode cX1_becomes 8 = .ok (.getfield 11, 3) := by decide +kernel
theorem dX1_becomes_11 : decode cX1_becomes 11 = .ok (.iconst 2, 1) := by decide +kernel
theorem dX1_becomes_12 : decode cX1_becomes 12 = .ok (.iload_n 1, 1) := by decide +kernel
theorem dX1_becomes_13 : decode cX1_becomes 13 = .ok (.iadd, 1) := by decide +kernel
theorem dX1_becomes_14 : decode cX1_becomes 14 = .ok (.iload_n 2, 1) := by decide +kernel
theorem dX1_becomes_15 : decode cX1_becomes 15 = .ok (.iastore, 1) := by decide +kernel
theorem dX1_becomes_16 : decode cX1_becomes 16 = .ok (.aload_n 0, 1) := by decide +kernel
theorem dX1_becomes_17 : decode cX1_becomes 17 = .ok (.getfield 11, 3) := by decide +kernel
theorem dX1_becomes_20 : decode cX1_becomes 20 = .ok (.bipush 8, 2) := by decide +kernel
theorem dX1_becomes_22 : decode cX1_becomes 22 = .ok (.iload_n 1, 1) := by decide +kernel
theorem dX1_becomes_23 : decode cX1_becomes 23 = .ok (.iadd, 1) := by decide +kernel
theorem dX1_becomes_24 : decode cX1_becomes 24 = .ok (.iload_n 3, 1) := by decide +kernel
theorem dX1_becomes_25 : decode cX1_becomes 25 = .ok (.iastore, 1) := by decide +kernel
theorem dX1_becomes_26 : decode cX1_becomes 26 = .ok (.return_, 1) := by decide +kernel
theorem dX1_layAside_0 : decode cX1_layAside 0 = .ok (.aload_n 0, 1) := by decide +kernel
theorem dX1_layAside_1 : decode cX1_layAside 1 = .ok (.getfield 18, 3) := by decide +kernel
theorem dX1_layAside_4 : decode cX1_layAside 4 = .ok (.iconst 3, 1) := by decide +kernel
theorem dX1_layAside_5 : decode cX1_layAside 5 = .ok (.if_icmp .ge 34, 3) := by decide +kernel
theorem dX1_layAside_8 : decode cX1_layAside 8 = .ok (.aload_n 0, 1) := by decide +kernel
theorem dX1_layAside_9 : decode cX1_layAside 9 = .ok (.getfield 11, 3) := by decide +kernel
theorem dX1_layAside_12 : decode cX1_layAside 12 = .ok (.iconst 0, 1) := by decide +kernel
theorem dX1_layAside_13 : decode cX1_layAside 13 = .ok (.aload_n 0, 1) := by decide +kernel
theorem dX1_layAside_14 : decode cX1_layAside 14 = .ok (.getfield 15, 3) := by decide +kernel
theorem dX1_layAside_17 : decode cX1_layAside 17 = .ok (.aload_n 0, 1) := by decide +kernel
theorem dX1_layAside_18 : decode cX1_layAside 18 = .ok (.getfield 18, 3) := by decide +kernel
theorem dX1_layAside_21 : decode cX1_layAside 21 = .ok (.bipush 14, 2) := by decide +kernel
theorem dX1_layAside_23 : decode cX1_layAside 23 = .ok (.imul, 1) := by decide +kernel
theorem dX1_layAside_24 : decode cX1_layAside 24 = .ok (.bipush 14, 2) := by decide +kernel
theorem dX1_layAside_26 : decode cX1_layAside 26 = .ok (.invokestatic 66, 3) := by decide +kernel
theorem dX1_layAside_29 : decode cX1_layAside 29 = .ok (.aload_n 0, 1) := by decide +kernel
theorem dX1_layAside_30 : decode cX1_layAside 30 = .ok (.dup, 1) := by decide +kernel
theorem dX1_layAside_31 : decode cX1_layAside 31 = .ok (.getfield 18, 3) := by decide +kernel
theorem dX1_layAside_34 : decode cX1_layAside 34 = .ok (.iconst 1, 1) := by decide +kernel
theorem dX1_layAside_35 : decode cX1_layAside 35 = .ok (.iadd, 1) := by decide +kernel
theorem dX1_layAside_36 : decode cX1_layAside 36 = .ok (.putfield 18, 3) := by decide +kernel
theorem dX1_layAside_39 : decode cX1_layAside 39 = .ok (.return_, 1) := by decide +kernel
set_option maxRecDepth 20000 in
theorem ggX1_takeBack_X1_becomeFirst : GoodIn wsX1_takeBack wsX1_becomeFirst := goodIn_r _ [12, 3, 13, 14, 15, 16, 17, 18, 19, 11, 20, 21, 22, 23, 24, 25, 26] rfl rfl
set_option maxRecDepth 20000 in
theorem gX1_takeBack_X1_becomeFirst : GoodIn wsX1_takeBack (wsV RX1 26 RX1 yX1_becomeFirst wsX1_becomeFirst) := goodIn_app (goodIn_of _ (by decide +kernel)) ggX1_takeBack_X1_becomeFirst
theorem dX1_takeBack_0 : decode cX1_takeBack 0 = .ok (.aload_n 0, 1) := by decide +kernel
theorem dX1_takeBack_1 : decode cX1_takeBack 1 = .ok (.getfield 18, 3) := by decide +kernel
theorem dX1_takeBack_4 : decode cX1_takeBack 4 = .ok (.ifCond .le 37, 3) := by decide +kernel
theorem dX1_takeBack_7 : decode cX1_takeBack 7 = .ok (.aload_n 0, 1) := by decide +kernel
theorem dX1_takeBack_8 : decode cX1_takeBack 8 = .ok (.dup, 1) := by decide +kernel
theorem dX1_takeBack_9 : decode cX1_takeBack 9 = .ok (.getfield 18, 3) := by decide +kernel
theorem dX1_takeBack_12 : decode cX1_takeBack 12 = .ok (.iconst 1, 1) := by decide +kernel
theorem dX1_takeBack_13 : decode cX1_takeBack 13 = .ok (.isub, 1) := by decide +kernel
theorem dX1_takeBack_14 : decode cX1_takeBack 14 = .ok (.putfield 18, 3) := by decide +kernel
theorem dX1_takeBack_17 : decode cX1_takeBack 17 = .ok (.aload_n 0, 1) := by decide +kernel
theorem dX1_takeBack_18 : decode cX1_takeBack 18 = .ok (.getfield 15, 3) := by decide +kernel
theorem dX1_takeBack_21 : decode cX1_takeBack 21 = .ok (.aload_n 0, 1) := by decide +kernel
theorem dX1_takeBack_22 : decode cX1_takeBack 22 = .ok (.getfield 18, 3) := by decide +kernel
theorem dX1_takeBack_25 : decode cX1_takeBack 25 = .ok (.bipush 14, 2) := by decide +kernel
theorem dX1_takeBack_27 : decode cX1_takeBack 27 = .ok (.imul, 1) := by decide +kernel
theorem dX1_takeBack_28 : decode cX1_takeBack 28 = .ok (.aload_n 0, 1) := by decide +kernel
theorem dX1_takeBack_29 : decode cX1_takeBack 29 = .ok (.getfield 11, 3) := by decide +kernel
theorem dX1_takeBack_32 : decode cX1_takeBack 32 = .ok (.iconst 0, 1) := by decide +kernel
theorem dX1_takeBack_33 : decode cX1_takeBack 33 = .ok (.bipush 14, 2) := by decide +kernel
theorem dX1_takeBack_35 : decode cX1_takeBack 35 = .ok (.invokestatic 66, 3) := by decide +kernel
theorem dX1_takeBack_38 : decode cX1_takeBack 38 = .ok (.goto 7, 3) := by decide +kernel
theorem dX1_takeBack_41 : decode cX1_takeBack 41 = .ok (.aload_n 0, 1) := by decide +kernel
theorem dX1_takeBack_42 : decode cX1_takeBack 42 = .ok (.invokevirtual 26, 3) := by decide +kernel
theorem dX1_takeBack_45 : decode cX1_takeBack 45 = .ok (.return_, 1) := by decide +kernel
theorem dX2_init_0 : decode cX2_init 0 = .ok (.aload_n 0, 1) := by decide +kernel
theorem dX2_init_1 : decode cX2_init 1 = .ok (.invokespecial 3, 3) := by decide +kernel
theorem dX2_init_4 : decode cX2_init 4 = .ok (.aload_n 0, 1) := by decide +kernel
theorem dX2_init_5 : decode cX2_init 5 = .ok (.bipush 40, 2) := by decide +kernel
theorem dX2_init_7 : decode cX2_init 7 = .ok (.newarray .int, 2) := by decide +kernel
theorem dX2_init_9 : decode cX2_init 9 = .ok (.putfield 9, 3) := by decide +kernel
theorem dX2_init_12 : decode cX2_init 12 = .ok (.aload_n 0, 1) := by decide +kernel
theorem dX2_init_13 : decode cX2_init 13 = .ok (.iconst 0, 1) := by decide +kernel
theorem dX2_init_14 : decode cX2_init 14 = .ok (.putfield 15, 3) := by decide +kernel
theorem dX2_init_17 : decode cX2_init 17 = .ok (.aload_n 0, 1) := by decide +kernel
theorem dX2_init_18 : decode cX2_init 18 = .ok (.iconst 0, 1) := by decide +kernel
theorem dX2_init_19 : decode cX2_init 19 = .ok (.putfield 19, 3) := by decide +kernel
theorem dX2_init_22 : decode cX2_init 22 = .ok (.aload_n 0, 1) := by decide +kernel
theorem dX2_init_23 : decode cX2_init 23 = .ok (.iconst 0, 1) := by decide +kernel
theorem dX2_init_24 : decode cX2_init 24 = .ok (.putfield 23, 3) := by decide +kernel
theorem dX2_init_27 : decode cX2_init 27 = .ok (.return_, 1) := by decide +kernel
set_option maxRecDepth 20000 in
theorem ggX2_becomeNew_J7_fill_53178 : GoodIn wsX2_becomeNew wsJ7_fill_53178 := goodIn_r _ [8] rfl rfl
set_option maxRecDepth 20000 in
theorem gX2_becomeNew_J7_fill_53178 : GoodIn wsX2_becomeNew (va_wsS RX2 26 yJ7_fill_53178 wsJ7_fill_53178) := goodIn_app (goodIn_of _ (by decide +kernel)) ggX2_becomeNew_J7_fill_53178
theorem dX2_becomeNew_0 : decode cX2_becomeNew 0 = .ok (.aload_n 0, 1) := by decide +kernel
theorem dX2_becomeNew_1 : decode cX2_becomeNew 1 = .ok (.getfield 9, 3) := by decide +kernel
theorem dX2_becomeNew_4 : decode cX2_becomeNew 4 = .ok (.iconst 0, 1) := by decide +kernel
theorem dX2_becomeNew_5 : decode cX2_becomeNew 5 = .ok (.invokestatic 26, 3) := by decide +kernel
theorem dX2_becomeNew_8 : decode cX2_becomeNew 8 = .ok (.aload_n 0, 1) := by decide +kernel
theorem dX2_becomeNew_9 : decode cX2_becomeNew 9 = .ok (.iconst 1, 1) := by decide +kernel
theorem dX2_becomeNew_10 : decode cX2_becomeNew 10 = .ok (.putfield 15, 3) := by decide +kernel
theorem dX2_becomeNew_13 : decode cX2_becomeNew 13 = .ok (.aload_n 0, 1) := by decide +kernel
theorem dX2_becomeNew_14 : decode cX2_becomeNew 14 = .ok (.iload_n 1, 1) := by decide +kernel
theorem dX2_becomeNew_15 : decode cX2_becomeNew 15 = .ok (.putfield 19, 3) := by decide +kernel
theorem dX2_becomeNew_18 : decode cX2_becomeNew 18 = .ok (.aload_n 0, 1) := by decide +kernel
theorem dX2_becomeNew_19 : decode cX2_becomeNew 19 = .ok (.iload_n 2, 1) := by decide +kernel
theorem dX2_becomeNew_20 : decode cX2_becomeNew 20 = .ok (.putfield 23, 3) := by decide +kernel
theorem dX2_becomeNew_23 : decode cX2_becomeNew 23 = .ok (.return_, 1) := by decide +kernel
theorem dX2_refusal_0 : decode cX2_refusal 0 = .ok (.aload_n 0, 1) := by decide +kernel
theorem dX2_refusal_1 : decode cX2_refusal 1 = .ok (.getfield 15, 3) := by decide +kernel
theorem dX2_refusal_4 : decode cX2_refusal 4 = .ok (.ifCond .ne 5, 3) := by decide +kernel
theorem dX2_refusal_7 : decode cX2_refusal 7 = .ok (.iconst 1, 1) := by decide +kernel
theorem dX2_refusal_8 : decode cX2_refusal 8 = .ok (.ireturn, 1) := by decide +kernel
theorem dX2_refusal_9 : decode cX2_refusal 9 = .ok (.iload_n 1, 1) := by decide +kernel
theorem dX2_refusal_10 : decode cX2_refusal 10 = .ok (.aload_n 0, 1) := by decide +kernel
theorem dX2_refusal_11 : decode cX2_refusal 11 = .ok (.getfield 19, 3) := by decide +kernel
theorem dX2_refusal_14 : decode cX2_refusal 14 = .ok (.if_icmp .eq 5, 3) := by decide +kernel
theorem dX2_refusal_17 : decode cX2_refusal 17 = .ok (.iconst 3, 1) := by decide +kernel
theorem dX2_refusal_18 : decode cX2_refusal 18 = .ok (.ireturn, 1) := by decide +kernel
theorem dX2_refusal_19 : decode cX2_refusal 19 = .ok (.iload_n 2, 1) := by decide +kernel
theorem dX2_refusal_20 : decode cX2_refusal 20 = .ok (.ifCond .lt 11, 3) := by decide +kernel
theorem dX2_refusal_23 : decode cX2_refusal 23 = .ok (.iload_n 2, 1) := by decide +kernel
theorem dX2_refusal_24 : decode cX2_refusal 24 = .ok (.aload_n 0, 1) := by decide +kernel
theorem dX2_refusal_25 : decode cX2_refusal 25 = .ok (.getfield 23, 3) := by decide +kernel
theorem dX2_refusal_28 : decode cX2_refusal 28 = .ok (.if_icmp .lt 7, 3) := by decide +kernel
theorem dX2_refusal_31 : decode cX2_refusal 31 = .ok (.iconst 2, 1) := by decide +kernel
theorem dX2_refusal_32 : decode cX2_refusal 32 = .ok (.goto 4, 3) := by decide +kernel
theorem dX2_refusal_35 : decode cX2_refusal 35 = .ok (.iconst 0, 1) := by decide +kernel
theorem dX2_refusal_36 : decode cX2_refusal 36 = .ok (.ireturn, 1) := by decide +kernel
theorem dX2_become_0 : decode cX2_become 0 = .ok (.iload_n 1, 1) := by decide +kernel
theorem dX2_become_1 : decode cX2_become 1 = .ok (.ifCond .lt 11, 3) := by decide +kernel
theorem dX2_become_4 : decode cX2_become 4 = .ok (.iload_n 1, 1) := by decide +kernel
theorem dX2_become_5 : decode cX2_become 5 = .ok (.aload_n 0, 1) := by decide +kernel
theorem dX2_become_6 : decode cX2_become 6 = .ok (.getfield 23, 3) := by decide +kernel
theorem dX2_become_9 : decode cX2_become 9 = .ok (.if_icmp .lt 4, 3) := by decide +kernel
theorem dX2_become_12 : decode cX2_become 12 = .ok (.return_, 1) := by decide +kernel
theorem dX2_become_13 : decode cX2_become 13 = .ok (.aload_n 0, 1) := by decide +kernel
theorem dX2_become_14 : decode cX2_become 14 = .ok (.getfield 19, 3) := by decide +kernel
theorem dX2_become_17 : decode cX2_become 17 = .ok (.ifCond .ne 14, 3) := by decide +kernel
theorem dX2_become_20 : decode cX2_become 20 = .ok (.aload_n 0, 1) := by decide +kernel
theorem dX2_become_21 : decode cX2_become 21 = .ok (.getfield 9, 3) := by decide +kernel
theorem dX2_become_24 : decode cX2_become 24 = .ok (.iload_n 1, 1) := by decide +kernel
theorem dX2_become_25 : decode cX2_become 25 = .ok (.iload_n 2, 1) := by decide +kernel
theorem dX2_become_26 : decode cX2_become 26 = .ok (.i2b, 1) := by decide +kernel
theorem dX2_become_27 : decode cX2_become 27 = .ok (.iastore, 1) := by decide +kernel
theorem dX2_become_28 : decode cX2_become 28 = .ok (.goto 29, 3) := by decide +kernel
theorem dX2_become_31 : decode cX2_become 31 = .ok (.aload_n 0, 1) := by decide +kernel
theorem dX2_become_32 : decode cX2_become 32 = .ok (.getfield 19, 3) := by decide +kernel
theorem dX2_become_35 : decode cX2_become 35 = .ok (.iconst 1, 1) := by decide +kernel
theorem dX2_become_36 : decode cX2_become 36 = .ok (.if_icmp .ne 14, 3) := by decide +kernel
theorem dX2_become_39 : decode cX2_become 39 = .ok (.aload_n 0, 1) := by decide +kernel
theorem dX2_become_40 : decode cX2_become 40 = .ok (.getfield 9, 3) := by decide +kernel
theorem dX2_become_43 : decode cX2_become 43 = .ok (.iload_n 1, 1) := by decide +kernel
theorem dX2_become_44 : decode cX2_become 44 = .ok (.iload_n 2, 1) := by decide +kernel
theorem dX2_become_45 : decode cX2_become 45 = .ok (.i2s, 1) := by decide +kernel
theorem dX2_become_46 : decode cX2_become 46 = .ok (.iastore, 1) := by decide +kernel
theorem dX2_become_47 : decode cX2_become 47 = .ok (.goto 10, 3) := by decide +kernel
theorem dX2_become_50 : decode cX2_become 50 = .ok (.aload_n 0, 1) := by decide +kernel
theorem dX2_become_51 : decode cX2_become 51 = .ok (.getfield 9, 3) := by decide +kernel
theorem dX2_become_54 : decode cX2_become 54 = .ok (.iload_n 1, 1) := by decide +kernel
theorem dX2_become_55 : decode cX2_become 55 = .ok (.iload_n 2, 1) := by decide +kernel
theorem dX2_become_56 : decode cX2_become 56 = .ok (.iastore, 1) := by decide +kernel
theorem dX2_become_57 : decode cX2_become 57 = .ok (.return_, 1) := by decide +kernel
theorem dX3_init_0 : decode cX3_init 0 = .ok (.aload_n 0, 1) := by decide +kernel
theorem dX3_init_1 : decode cX3_init 1 = .ok (.invokespecial 3, 3) := by decide +kernel
theorem dX3_init_4 : decode cX3_init 4 = .ok (.aload_n 0, 1) := by decide +kernel
theorem dX3_init_5 : decode cX3_init 5 = .ok (.iconst 0, 1) := by decide +kernel
theorem dX3_init_6 : decode cX3_init 6 = .ok (.putfield 9, 3) := by decide +kernel
theorem dX3_init_9 : decode cX3_init 9 = .ok (.aload_n 0, 1) := by decide +kernel
theorem dX3_init_10 : decode cX3_init 10 = .ok (.iload_n 2, 1) := by decide +kernel
theorem dX3_init_11 : decode cX3_init 11 = .ok (.putfield 15, 3) := by decide +kernel
theorem dX3_init_14 : decode cX3_init 14 = .ok (.aload_n 0, 1) := by decide +kernel
theorem dX3_init_15 : decode cX3_init 15 = .ok (.iload_n 1, 1) := by decide +kernel
theorem dX3_init_16 : decode cX3_init 16 = .ok (.iload_n 2, 1) := by decide +kernel
theorem dX3_init_17 : decode cX3_init 17 = .ok (.imul, 1) := by decide +kernel
theorem dX3_init_18 : decode cX3_init 18 = .ok (.newarray .int, 2) := by decide +kernel
theorem dX3_init_20 : decode cX3_init 20 = .ok (.putfield 18, 3) := by decide +kernel
theorem dX3_init_23 : decode cX3_init 23 = .ok (.return_, 1) := by decide +kernel
theorem dX3_has_0 : decode cX3_has 0 = .ok (.iload_n 1, 1) := by decide +kernel
theorem dX3_has_1 : decode cX3_has 1 = .ok (.ifCond .lt 15, 3) := by decide +kernel
theorem dX3_has_4 : decode cX3_has 4 = .ok (.iload_n 1, 1) := by decide +kernel
theorem dX3_has_5 : decode cX3_has 5 = .ok (.aload_n 0, 1) := by decide +kernel
theorem dX3_has_6 : decode cX3_has 6 = .ok (.getfield 9, 3) := by decide +kernel
theorem dX3_has_9 : decode cX3_has 9 = .ok (.if_icmp .ge 7, 3) := by decide +kernel
theorem dX3_has_12 : decode cX3_has 12 = .ok (.iconst 1, 1) := by decide +kernel
theorem dX3_has_13 : decode cX3_has 13 = .ok (.goto 4, 3) := by decide +kernel
theorem dX3_has_16 : decode cX3_has 16 = .ok (.iconst 0, 1) := by decide +kernel
theorem dX3_has_17 : decode cX3_has 17 = .ok (.ireturn, 1) := by decide +kernel
theorem dX3_isFull_0 : decode cX3_isFull 0 = .ok (.aload_n 0, 1) := by decide +kernel
theorem dX3_isFull_1 : decode cX3_isFull 1 = .ok (.getfield 9, 3) := by decide +kernel
theorem dX3_isFull_4 : decode cX3_isFull 4 = .ok (.iconst 1, 1) := by decide +kernel
theorem dX3_isFull_5 : decode cX3_isFull 5 = .ok (.iadd, 1) := by decide +kernel
theorem dX3_isFull_6 : decode cX3_isFull 6 = .ok (.aload_n 0, 1) := by decide +kernel
theorem dX3_isFull_7 : decode cX3_isFull 7 = .ok (.getfield 15, 3) := by decide +kernel
theorem dX3_isFull_10 : decode cX3_isFull 10 = .ok (.imul, 1) := by decide +kernel
theorem dX3_isFull_11 : decode cX3_isFull 11 = .ok (.aload_n 0, 1) := by decide +kernel
theorem dX3_isFull_12 : decode cX3_isFull 12 = .ok (.getfield 18, 3) := by decide +kernel
theorem dX3_isFull_15 : decode cX3_isFull 15 = .ok (.arraylength, 1) := by decide +kernel
theorem dX3_isFull_16 : decode cX3_isFull 16 = .ok (.if_icmp .le 7, 3) := by decide +kernel
theorem dX3_isFull_19 : decode cX3_isFull 19 = .ok (.iconst 1, 1) := by decide +kernel
theorem dX3_isFull_20 : decode cX3_isFull 20 = .ok (.goto 4, 3) := by decide +kernel
theorem dX3_isFull_23 : decode cX3_isFull 23 = .ok (.iconst 0, 1) := by decide +kernel
theorem dX3_isFull_24 : decode cX3_isFull 24 = .ok (.ireturn, 1) := by decide +kernel
theorem dX3_at_0 : decode cX3_at 0 = .ok (.iload_n 1, 1) := by decide +kernel
theorem dX3_at_1 : decode cX3_at 1 = .ok (.ifCond .lt 39, 3) := by decide +kernel
theorem dX3_at_4 : decode cX3_at 4 = .ok (.iload_n 1, 1) := by decide +kernel
theorem dX3_at_5 : decode cX3_at 5 = .ok (.aload_n 0, 1) := by decide +kernel
theorem dX3_at_6 : decode cX3_at 6 = .ok (.getfield 9, 3) := by decide +kernel
theorem dX3_at_9 : decode cX3_at 9 = .ok (.if_icmp .ge 31, 3) := by decide +kernel
theorem dX3_at_12 : decode cX3_at 12 = .ok (.iload_n 2, 1) := by decide +kernel
theorem dX3_at_13 : decode cX3_at 13 = .ok (.ifCond .lt 27, 3) := by decide +kernel
theorem dX3_at_16 : decode cX3_at 16 = .ok (.iload_n 2, 1) := by decide +kernel
theorem dX3_at_17 : decode cX3_at 17 = .ok (.aload_n 0, 1) := by decide +kernel
theorem dX3_at_18 : decode cX3_at 18 = .ok (.getfield 15, 3) := by decide +kernel
theorem dX3_at_21 : decode cX3_at 21 = .ok (.if_icmp .ge 19, 3) := by decide +kernel
theorem dX3_at_24 : decode cX3_at 24 = .ok (.aload_n 0, 1) := by decide +kernel
theorem dX3_at_25 : decode cX3_at 25 = .ok (.getfield 18, 3) := by decide +kernel
theorem dX3_at_28 : decode cX3_at 28 = .ok (.iload_n 1, 1) := by decide +kernel
theorem dX3_at_29 : decode cX3_at 29 = .ok (.aload_n 0, 1) := by decide +kernel
theorem dX3_at_30 : decode cX3_at 30 = .ok (.getfield 15, 3) := by decide +kernel
theorem dX3_at_33 : decode cX3_at 33 = .ok (.imul, 1) := by decide +kernel
theorem dX3_at_34 : decode cX3_at 34 = .ok (.iload_n 2, 1) := by decide +kernel
theorem dX3_at_35 : decode cX3_at 35 = .ok (.iadd, 1) := by decide +kernel
theorem dX3_at_36 : decode cX3_at 36 = .ok (.iaload, 1) := by decide +kernel
theorem dX3_at_37 : decode cX3_at 37 = .ok (.goto 5, 3) := by decide +kernel
theorem dX3_at_40 : decode cX3_at 40 = .ok (.bipush (-4), 2) := by decide +kernel
theorem dX3_at_42 : decode cX3_at 42 = .ok (.ireturn, 1) := by decide +kernel
theorem dX3_set_0 : decode cX3_set 0 = .ok (.iload_n 1, 1) := by decide +kernel
theorem dX3_set_1 : decode cX3_set 1 = .ok (.ifCond .lt 37, 3) := by decide +kernel
theorem dX3_set_4 : decode cX3_set 4 = .ok (.iload_n 1, 1) := by decide +kernel
theorem dX3_set_5 : decode cX3_set 5 = .ok (.aload_n 0, 1) := by decide +kernel
theorem dX3_set_6 : decode cX3_set 6 = .ok (.getfield 9, 3) := by decide +kernel
theorem dX3_set_9 : decode cX3_set 9 = .ok (.if_icmp .ge 29, 3) := by decide +kernel
theorem dX3_set_12 : decode cX3_set 12 = .ok (.iload_n 2, 1) := by decide +kernel
theorem dX3_set_13 : decode cX3_set 13 = .ok (.ifCond .lt 25, 3) := by decide +kernel
theorem dX3_set_16 : decode cX3_set 16 = .ok (.iload_n 2, 1) := by decide +kernel
theorem dX3_set_17 : decode cX3_set 17 = .ok (.aload_n 0, 1) := by decide +kernel
theorem dX3_set_18 : decode cX3_set 18 = .ok (.getfield 15, 3) := by decide +kernel
theorem dX3_set_21 : decode cX3_set 21 = .ok (.if_icmp .ge 17, 3) := by decide +kernel
theorem dX3_set_24 : decode cX3_set 24 = .ok (.aload_n 0, 1) := by decide +kernel
theorem dX3_set_25 : decode cX3_set 25 = .ok (.getfield 18, 3) := by decide +kernel
theorem dX3_set_28 : decode cX3_set 28 = .ok (.iload_n 1, 1) := by decide +kernel
theorem dX3_set_29 : decode cX3_set 29 = .ok (.aload_n 0, 1) := by decide +kernel
theorem dX3_set_30 : decode cX3_set 30 = .ok (.getfield 15, 3) := by decide +kernel
theorem dX3_set_33 : decode cX3_set 33 = .ok (.imul, 1) := by decide +kernel
theorem dX3_set_34 : decode cX3_set 34 = .ok (.iload_n 2, 1) := by decide +kernel
theorem dX3_set_35 : decode cX3_set 35 = .ok (.iadd, 1) := by decide +kernel
theorem dX3_set_36 : decode cX3_set 36 = .ok (.iload_n 3, 1) := by decide +kernel
theorem dX3_set_37 : decode cX3_set 37 = .ok (.iastore, 1) := by decide +kernel
theorem dX3_set_38 : decode cX3_set 38 = .ok (.return_, 1) := by decide +kernel
set_option maxRecDepth 20000 in
theorem ggX3_addOne_X3_isFull : GoodIn wsX3_addOne wsX3_isFull := goodIn_r _ [6, 1, 7, 8, 9, 10, 11] rfl rfl
set_option maxRecDepth 20000 in
theorem gX3_addOne_X3_isFull : GoodIn wsX3_addOne (wsV RX3 22 RX3 yX3_isFull wsX3_isFull) := goodIn_app (goodIn_of _ (by decide +kernel)) ggX3_addOne_X3_isFull
theorem dX3_addOne_0 : decode cX3_addOne 0 = .ok (.aload_n 0, 1) := by decide +kernel
theorem dX3_addOne_1 : decode cX3_addOne 1 = .ok (.invokevirtual 22, 3) := by decide +kernel
theorem dX3_addOne_4 : decode cX3_addOne 4 = .ok (.ifCond .ne 13, 3) := by decide +kernel
theorem dX3_addOne_7 : decode cX3_addOne 7 = .ok (.aload_n 0, 1) := by decide +kernel
theorem dX3_addOne_8 : decode cX3_addOne 8 = .ok (.dup, 1) := by decide +kernel
theorem dX3_addOne_9 : decode cX3_addOne 9 = .ok (.getfield 9, 3) := by decide +kernel
theorem dX3_addOne_12 : decode cX3_addOne 12 = .ok (.iconst 1, 1) := by decide +kernel
theorem dX3_addOne_13 : decode cX3_addOne 13 = .ok (.iadd, 1) := by decide +kernel
theorem dX3_addOne_14 : decode cX3_addOne 14 = .ok (.putfield 9, 3) := by decide +kernel
theorem dX3_addOne_17 : decode cX3_addOne 17 = .ok (.return_, 1) := by decide +kernel
theorem dX3_takeOver_0 : decode cX3_takeOver 0 = .ok (.aload_n 1, 1) := by decide +kernel
theorem dX3_takeOver_1 : decode cX3_takeOver 1 = .ok (.getfield 18, 3) := by decide +kernel
theorem dX3_takeOver_4 : decode cX3_takeOver 4 = .ok (.arraylength, 1) := by decide +kernel
theorem dX3_takeOver_5 : decode cX3_takeOver 5 = .ok (.aload_n 0, 1) := by decide +kernel
theorem dX3_takeOver_6 : decode cX3_takeOver 6 = .ok (.getfield 18, 3) := by decide +kernel
theorem dX3_takeOver_9 : decode cX3_takeOver 9 = .ok (.arraylength, 1) := by decide +kernel
theorem dX3_takeOver_10 : decode cX3_takeOver 10 = .ok (.if_icmp .ne 29, 3) := by decide +kernel
theorem dX3_takeOver_13 : decode cX3_takeOver 13 = .ok (.aload_n 1, 1) := by decide +kernel
theorem dX3_takeOver_14 : decode cX3_takeOver 14 = .ok (.getfield 18, 3) := by decide +kernel
theorem dX3_takeOver_17 : decode cX3_takeOver 17 = .ok (.iconst 0, 1) := by decide +kernel
theorem dX3_takeOver_18 : decode cX3_takeOver 18 = .ok (.aload_n 0, 1) := by decide +kernel
theorem dX3_takeOver_19 : decode cX3_takeOver 19 = .ok (.getfield 18, 3) := by decide +kernel
theorem dX3_takeOver_22 : decode cX3_takeOver 22 = .ok (.iconst 0, 1) := by decide +kernel
theorem dX3_takeOver_23 : decode cX3_takeOver 23 = .ok (.aload_n 0, 1) := by decide +kernel
theorem dX3_takeOver_24 : decode cX3_takeOver 24 = .ok (.getfield 18, 3) := by decide +kernel
theorem dX3_takeOver_27 : decode cX3_takeOver 27 = .ok (.arraylength, 1) := by decide +kernel
theorem dX3_takeOver_28 : decode cX3_takeOver 28 = .ok (.invokestatic 26, 3) := by decide +kernel
theorem dX3_takeOver_31 : decode cX3_takeOver 31 = .ok (.aload_n 0, 1) := by decide +kernel
theorem dX3_takeOver_32 : decode cX3_takeOver 32 = .ok (.aload_n 1, 1) := by decide +kernel
theorem dX3_takeOver_33 : decode cX3_takeOver 33 = .ok (.getfield 9, 3) := by decide +kernel
theorem dX3_takeOver_36 : decode cX3_takeOver 36 = .ok (.putfield 9, 3) := by decide +kernel
theorem dX3_takeOver_39 : decode cX3_takeOver 39 = .ok (.return_, 1) := by decide +kernel
set_option maxRecDepth 20000 in
theorem ggX3_howMany_X3_at : GoodIn wsX3_howMany wsX3_at := goodIn_r _ [6, 1, 7, 8, 9, 10, 11] rfl rfl
set_option maxRecDepth 20000 in
theorem gX3_howMany_X3_at : GoodIn wsX3_howMany (wsV RX3 32 RX3 yX3_at wsX3_at) := goodIn_app (goodIn_of _ (by decide +kernel)) ggX3_howMany_X3_at
theorem dX3_howMany_0 : decode cX3_howMany 0 = .ok (.iconst 0, 1) := by decide +kernel
theorem dX3_howMany_1 : decode cX3_howMany 1 = .ok (.istore_n 3, 1) := by decide +kernel
theorem dX3_howMany_2 : decode cX3_howMany 2 = .ok (.iconst 0, 1) := by decide +kernel
theorem dX3_howMany_3 : decode cX3_howMany 3 = .ok (.istore 4, 2) := by decide +kernel
theorem dX3_howMany_5 : decode cX3_howMany 5 = .ok (.iload 4, 2) := by decide +kernel
theorem dX3_howMany_7 : decode cX3_howMany 7 = .ok (.aload_n 0, 1) := by decide +kernel
theorem dX3_howMany_8 : decode cX3_howMany 8 = .ok (.getfield 9, 3) := by decide +kernel
theorem dX3_howMany_11 : decode cX3_howMany 11 = .ok (.if_icmp .ge 23, 3) := by decide +kernel
theorem dX3_howMany_14 : decode cX3_howMany 14 = .ok (.aload_n 0, 1) := by decide +kernel
theorem dX3_howMany_15 : decode cX3_howMany 15 = .ok (.iload 4, 2) := by decide +kernel
theorem dX3_howMany_17 : decode cX3_howMany 17 = .ok (.iload_n 1, 1) := by decide +kernel
theorem dX3_howMany_18 : decode cX3_howMany 18 = .ok (.invokevirtual 32, 3) := by decide +kernel
theorem dX3_howMany_21 : decode cX3_howMany 21 = .ok (.iload_n 2, 1) := by decide +kernel
theorem dX3_howMany_22 : decode cX3_howMany 22 = .ok (.if_icmp .ne 6, 3) := by decide +kernel
theorem dX3_howMany_25 : decode cX3_howMany 25 = .ok (.iinc 3 1, 3) := by decide +kernel
theorem dX3_howMany_28 : decode cX3_howMany 28 = .ok (.iinc 4 1, 3) := by decide +kernel
theorem dX3_howMany_31 : decode cX3_howMany 31 = .ok (.goto (-26), 3) := by decide +kernel
theorem dX3_howMany_34 : decode cX3_howMany 34 = .ok (.iload_n 3, 1) := by decide +kernel
theorem dX3_howMany_35 : decode cX3_howMany 35 = .ok (.ireturn, 1) := by decide +kernel
set_option maxRecDepth 20000 in
theorem ggX3_rankOf_X3_at : GoodIn wsX3_rankOf wsX3_at := goodIn_r _ [6, 1, 7, 8, 13, 14, 15] rfl rfl
set_option maxRecDepth 20000 in
theorem gX3_rankOf_X3_at : GoodIn wsX3_rankOf (wsV RX3 32 RX3 yX3_at wsX3_at) := goodIn_app (goodIn_of _ (by decide +kernel)) ggX3_rankOf_X3_at
set_option maxRecDepth 20000 in
theorem ggX3_rankOf_J6_compare_7cf53 : GoodIn wsX3_rankOf wsJ6_compare_7cf53 := goodIn_r _ [12] rfl rfl
set_option maxRecDepth 20000 in
theorem gX3_rankOf_J6_compare_7cf53 : GoodIn wsX3_rankOf (va_wsS RX3 36 yJ6_compare_7cf53 wsJ6_compare_7cf53) := goodIn_app (goodIn_of _ (by decide +kernel)) ggX3_rankOf_J6_compare_7cf53
theorem dX3_rankOf_0 : decode cX3_rankOf 0 = .ok (.iconst 0, 1) := by decide +kernel
theorem dX3_rankOf_1 : decode cX3_rankOf 1 = .ok (.istore_n 3, 1) := by decide +kernel
theorem dX3_rankOf_2 : decode cX3_rankOf 2 = .ok (.iconst 0, 1) := by decide +kernel
theorem dX3_rankOf_3 : decode cX3_rankOf 3 = .ok (.istore 4, 2) := by decide +kernel
theorem dX3_rankOf_5 : decode cX3_rankOf 5 = .ok (.iload 4, 2) := by decide +kernel
theorem dX3_rankOf_7 : decode cX3_rankOf 7 = .ok (.aload_n 0, 1) := by decide +kernel
theorem dX3_rankOf_8 : decode cX3_rankOf 8 = .ok (.getfield 9, 3) := by decide +kernel
theorem dX3_rankOf_11 : decode cX3_rankOf 11 = .ok (.if_icmp .ge 46, 3) := by decide +kernel
theorem dX3_rankOf_14 : decode cX3_rankOf 14 = .ok (.aload_n 0, 1) := by decide +kernel
theorem dX3_rankOf_15 : decode cX3_rankOf 15 = .ok (.iload 4, 2) := by decide +kernel
theorem dX3_rankOf_17 : decode cX3_rankOf 17 = .ok (.iload_n 2, 1) := by decide +kernel
theorem dX3_rankOf_18 : decode cX3_rankOf 18 = .ok (.invokevirtual 32, 3) := by decide +kernel
theorem dX3_rankOf_21 : decode cX3_rankOf 21 = .ok (.aload_n 0, 1) := by decide +kernel
theorem dX3_rankOf_22 : decode cX3_rankOf 22 = .ok (.iload_n 1, 1) := by decide +kernel
theorem dX3_rankOf_23 : decode cX3_rankOf 23 = .ok (.iload_n 2, 1) := by decide +kernel
theorem dX3_rankOf_24 : decode cX3_rankOf 24 = .ok (.invokevirtual 32, 3) := by decide +kernel
theorem dX3_rankOf_27 : decode cX3_rankOf 27 = .ok (.invokestatic 36, 3) := by decide +kernel
theorem dX3_rankOf_30 : decode cX3_rankOf 30 = .ok (.istore 5, 2) := by decide +kernel
theorem dX3_rankOf_32 : decode cX3_rankOf 32 = .ok (.iload 5, 2) := by decide +kernel
theorem dX3_rankOf_34 : decode cX3_rankOf 34 = .ok (.ifCond .lt 14, 3) := by decide +kernel
theorem dX3_rankOf_37 : decode cX3_rankOf 37 = .ok (.iload 5, 2) := by decide +kernel
theorem dX3_rankOf_39 : decode cX3_rankOf 39 = .ok (.ifCond .ne 12, 3) := by decide +kernel
theorem dX3_rankOf_42 : decode cX3_rankOf 42 = .ok (.iload 4, 2) := by decide +kernel
theorem dX3_rankOf_44 : decode cX3_rankOf 44 = .ok (.iload_n 1, 1) := by decide +kernel
theorem dX3_rankOf_45 : decode cX3_rankOf 45 = .ok (.if_icmp .ge 6, 3) := by decide +kernel
theorem dX3_rankOf_48 : decode cX3_rankOf 48 = .ok (.iinc 3 1, 3) := by decide +kernel
theorem dX3_rankOf_51 : decode cX3_rankOf 51 = .ok (.iinc 4 1, 3) := by decide +kernel
theorem dX3_rankOf_54 : decode cX3_rankOf 54 = .ok (.goto (-49), 3) := by decide +kernel
theorem dX3_rankOf_57 : decode cX3_rankOf 57 = .ok (.iload_n 3, 1) := by decide +kernel
theorem dX3_rankOf_58 : decode cX3_rankOf 58 = .ok (.ireturn, 1) := by decide +kernel
set_option maxRecDepth 20000 in
theorem ggX3_ranked_X3_rankOf : GoodIn wsX3_ranked wsX3_rankOf := goodIn_r _ [6, 1, 7, 8, 9, 5, 10, 11, 12, 13, 14, 15, 16, 17, 18, 19] rfl rfl
set_option maxRecDepth 20000 in
theorem gX3_ranked_X3_rankOf : GoodIn wsX3_ranked (wsV RX3 41 RX3 yX3_rankOf wsX3_rankOf) := goodIn_app (goodIn_of _ (by decide +kernel)) ggX3_ranked_X3_rankOf
theorem dX3_ranked_0 : decode cX3_ranked 0 = .ok (.iconst 0, 1) := by decide +kernel
theorem dX3_ranked_1 : decode cX3_ranked 1 = .ok (.istore_n 3, 1) := by decide +kernel
theorem dX3_ranked_2 : decode cX3_ranked 2 = .ok (.iload_n 3, 1) := by decide +kernel
theorem dX3_ranked_3 : decode cX3_ranked 3 = .ok (.aload_n 0, 1) := by decide +kernel
theorem dX3_ranked_4 : decode cX3_ranked 4 = .ok (.getfield 9, 3) := by decide +kernel
theorem dX3_ranked_7 : decode cX3_ranked 7 = .ok (.if_icmp .ge 21, 3) := by decide +kernel
theorem dX3_ranked_10 : decode cX3_ranked 10 = .ok (.aload_n 0, 1) := by decide +kernel
theorem dX3_ranked_11 : decode cX3_ranked 11 = .ok (.iload_n 3, 1) := by decide +kernel
theorem dX3_ranked_12 : decode cX3_ranked 12 = .ok (.iload_n 2, 1) := by decide +kernel
theorem dX3_ranked_13 : decode cX3_ranked 13 = .ok (.invokevirtual 41, 3) := by decide +kernel
theorem dX3_ranked_16 : decode cX3_ranked 16 = .ok (.iload_n 1, 1) := by decide +kernel
theorem dX3_ranked_17 : decode cX3_ranked 17 = .ok (.if_icmp .ne 5, 3) := by decide +kernel
theorem dX3_ranked_20 : decode cX3_ranked 20 = .ok (.iload_n 3, 1) := by decide +kernel
theorem dX3_ranked_21 : decode cX3_ranked 21 = .ok (.ireturn, 1) := by decide +kernel
theorem dX3_ranked_22 : decode cX3_ranked 22 = .ok (.iinc 3 1, 3) := by decide +kernel
theorem dX3_ranked_25 : decode cX3_ranked 25 = .ok (.goto (-23), 3) := by decide +kernel
theorem dX3_ranked_28 : decode cX3_ranked 28 = .ok (.bipush (-4), 2) := by decide +kernel
theorem dX3_ranked_30 : decode cX3_ranked 30 = .ok (.ireturn, 1) := by decide +kernel
set_option maxRecDepth 20000 in
theorem ggX6_init_X3_init : GoodIn wsX6_init wsX3_init := goodIn_r _ [16, 17, 2, 3, 18, 19, 11, 20, 21, 22, 23] rfl rfl
set_option maxRecDepth 20000 in
theorem gX6_init_X3_init : GoodIn wsX6_init (wsX3_init) := ggX6_init_X3_init
theorem dX6_init_0 : decode cX6_init 0 = .ok (.aload_n 0, 1) := by decide +kernel
theorem dX6_init_1 : decode cX6_init 1 = .ok (.invokespecial 3, 3) := by decide +kernel
theorem dX6_init_4 : decode cX6_init 4 = .ok (.aload_n 0, 1) := by decide +kernel
theorem dX6_init_5 : decode cX6_init 5 = .ok (.new 9, 3) := by decide +kernel
theorem dX6_init_8 : decode cX6_init 8 = .ok (.dup, 1) := by decide +kernel
theorem dX6_init_9 : decode cX6_init 9 = .ok (.bipush 8, 2) := by decide +kernel
theorem dX6_init_11 : decode cX6_init 11 = .ok (.iconst 3, 1) := by decide +kernel
theorem dX6_init_12 : decode cX6_init 12 = .ok (.invokespecial 11, 3) := by decide +kernel
theorem dX6_init_15 : decode cX6_init 15 = .ok (.putfield 14, 3) := by decide +kernel
theorem dX6_init_18 : decode cX6_init 18 = .ok (.aload_n 0, 1) := by decide +kernel
theorem dX6_init_19 : decode cX6_init 19 = .ok (.new 9, 3) := by decide +kernel
theorem dX6_init_22 : decode cX6_init 22 = .ok (.dup, 1) := by decide +kernel
theorem dX6_init_23 : decode cX6_init 23 = .ok (.bipush 40, 2) := by decide +kernel
theorem dX6_init_25 : decode cX6_init 25 = .ok (.iconst 4, 1) := by decide +kernel
theorem dX6_init_26 : decode cX6_init 26 = .ok (.invokespecial 11, 3) := by decide +kernel
theorem dX6_init_29 : decode cX6_init 29 = .ok (.putfield 20, 3) := by decide +kernel
theorem dX6_init_32 : decode cX6_init 32 = .ok (.aload_n 0, 1) := by decide +kernel
theorem dX6_init_33 : decode cX6_init 33 = .ok (.new 9, 3) := by decide +kernel
theorem dX6_init_36 : decode cX6_init 36 = .ok (.dup, 1) := by decide +kernel
theorem dX6_init_37 : decode cX6_init 37 = .ok (.bipush 16, 2) := by decide +kernel
theorem dX6_init_39 : decode cX6_init 39 = .ok (.iconst 5, 1) := by decide +kernel
theorem dX6_init_40 : decode cX6_init 40 = .ok (.invokespecial 11, 3) := by decide +kernel
theorem dX6_init_43 : decode cX6_init 43 = .ok (.putfield 23, 3) := by decide +kernel
theorem dX6_init_46 : decode cX6_init 46 = .ok (.aload_n 0, 1) := by decide +kernel
theorem dX6_init_47 : decode cX6_init 47 = .ok (.new 9, 3) := by decide +kernel
theorem dX6_init_50 : decode cX6_init 50 = .ok (.dup, 1) := by decide +kernel
theorem dX6_init_51 : decode cX6_init 51 = .ok (.bipush 16, 2) := by decide +kernel
theorem dX6_init_53 : decode cX6_init 53 = .ok (.iconst 2, 1) := by decide +kernel
theorem dX6_init_54 : decode cX6_init 54 = .ok (.invokespecial 11, 3) := by decide +kernel
theorem dX6_init_57 : decode cX6_init 57 = .ok (.putfield 26, 3) := by decide +kernel
theorem dX6_init_60 : decode cX6_init 60 = .ok (.aload_n 0, 1) := by decide +kernel
theorem dX6_init_61 : decode cX6_init 61 = .ok (.bipush 6, 2) := by decide +kernel
theorem dX6_init_63 : decode cX6_init 63 = .ok (.newarray .int, 2) := by decide +kernel
theorem dX6_init_65 : decode cX6_init 65 = .ok (.putfield 29, 3) := by decide +kernel
theorem dX6_init_68 : decode cX6_init 68 = .ok (.aload_n 0, 1) := by decide +kernel
theorem dX6_init_69 : decode cX6_init 69 = .ok (.bipush 48, 2) := by decide +kernel
theorem dX6_init_71 : decode cX6_init 71 = .ok (.newarray .int, 2) := by decide +kernel
theorem dX6_init_73 : decode cX6_init 73 = .ok (.putfield 33, 3) := by decide +kernel
theorem dX6_init_76 : decode cX6_init 76 = .ok (.return_, 1) := by decide +kernel
theorem dX6_clearTables_0 : decode cX6_clearTables 0 = .ok (.aload_n 0, 1) := by decide +kernel
theorem dX6_clearTables_1 : decode cX6_clearTables 1 = .ok (.getfield 14, 3) := by decide +kernel
theorem dX6_clearTables_4 : decode cX6_clearTables 4 = .ok (.iconst 0, 1) := by decide +kernel
theorem dX6_clearTables_5 : decode cX6_clearTables 5 = .ok (.putfield 36, 3) := by decide +kernel
theorem dX6_clearTables_8 : decode cX6_clearTables 8 = .ok (.aload_n 0, 1) := by decide +kernel
theorem dX6_clearTables_9 : decode cX6_clearTables 9 = .ok (.getfield 20, 3) := by decide +kernel
theorem dX6_clearTables_12 : decode cX6_clearTables 12 = .ok (.iconst 0, 1) := by decide +kernel
theorem dX6_clearTables_13 : decode cX6_clearTables 13 = .ok (.putfield 36, 3) := by decide +kernel
theorem dX6_clearTables_16 : decode cX6_clearTables 16 = .ok (.aload_n 0, 1) := by decide +kernel
theorem dX6_clearTables_17 : decode cX6_clearTables 17 = .ok (.getfield 23, 3) := by decide +kernel
theorem dX6_clearTables_20 : decode cX6_clearTables 20 = .ok (.iconst 0, 1) := by decide +kernel
theorem dX6_clearTables_21 : decode cX6_clearTables 21 = .ok (.putfield 36, 3) := by decide +kernel
theorem dX6_clearTables_24 : decode cX6_clearTables 24 = .ok (.aload_n 0, 1) := by decide +kernel
theorem dX6_clearTables_25 : decode cX6_clearTables 25 = .ok (.getfield 26, 3) := by decide +kernel
theorem dX6_clearTables_28 : decode cX6_clearTables 28 = .ok (.iconst 0, 1) := by decide +kernel
theorem dX6_clearTables_29 : decode cX6_clearTables 29 = .ok (.putfield 36, 3) := by decide +kernel
theorem dX6_clearTables_32 : decode cX6_clearTables 32 = .ok (.return_, 1) := by decide +kernel
set_option maxRecDepth 20000 in
theorem ggX6_takeTables_X3_takeOver : GoodIn wsX6_takeTables wsX3_takeOver := goodIn_r _ [9, 10, 11, 12, 13, 14, 15, 22, 23, 24] rfl rfl
set_option maxRecDepth 20000 in
theorem gX6_takeTables_X3_takeOver : GoodIn wsX6_takeTables (wsV RX6 40 RX3 yX3_takeOver wsX3_takeOver) := goodIn_app (goodIn_of _ (by decide +kernel)) ggX6_takeTables_X3_takeOver
theorem dX6_takeTables_0 : decode cX6_takeTables 0 = .ok (.aload_n 0, 1) := by decide +kernel
theorem dX6_takeTables_1 : decode cX6_takeTables 1 = .ok (.getfield 14, 3) := by decide +kernel
theorem dX6_takeTables_4 : decode cX6_takeTables 4 = .ok (.aload_n 1, 1) := by decide +kernel
theorem dX6_takeTables_5 : decode cX6_takeTables 5 = .ok (.getfield 14, 3) := by decide +kernel
theorem dX6_takeTables_8 : decode cX6_takeTables 8 = .ok (.invokevirtual 40, 3) := by decide +kernel
theorem dX6_takeTables_11 : decode cX6_takeTables 11 = .ok (.aload_n 0, 1) := by decide +kernel
theorem dX6_takeTables_12 : decode cX6_takeTables 12 = .ok (.getfield 20, 3) := by decide +kernel
theorem dX6_takeTables_15 : decode cX6_takeTables 15 = .ok (.aload_n 1, 1) := by decide +kernel
theorem dX6_takeTables_16 : decode cX6_takeTables 16 = .ok (.getfield 20, 3) := by decide +kernel
theorem dX6_takeTables_19 : decode cX6_takeTables 19 = .ok (.invokevirtual 40, 3) := by decide +kernel
theorem dX6_takeTables_22 : decode cX6_takeTables 22 = .ok (.aload_n 0, 1) := by decide +kernel
theorem dX6_takeTables_23 : decode cX6_takeTables 23 = .ok (.getfield 23, 3) := by decide +kernel
theorem dX6_takeTables_26 : decode cX6_takeTables 26 = .ok (.aload_n 1, 1) := by decide +kernel
theorem dX6_takeTables_27 : decode cX6_takeTables 27 = .ok (.getfield 23, 3) := by decide +kernel
theorem dX6_takeTables_30 : decode cX6_takeTables 30 = .ok (.invokevirtual 40, 3) := by decide +kernel
theorem dX6_takeTables_33 : decode cX6_takeTables 33 = .ok (.aload_n 0, 1) := by decide +kernel
theorem dX6_takeTables_34 : decode cX6_takeTables 34 = .ok (.getfield 26, 3) := by decide +kernel
theorem dX6_takeTables_37 : decode cX6_takeTables 37 = .ok (.aload_n 1, 1) := by decide +kernel
theorem dX6_takeTables_38 : decode cX6_takeTables 38 = .ok (.getfield 26, 3) := by decide +kernel
theorem dX6_takeTables_41 : decode cX6_takeTables 41 = .ok (.invokevirtual 40, 3) := by decide +kernel
theorem dX6_takeTables_44 : decode cX6_takeTables 44 = .ok (.return_, 1) := by decide +kernel
set_option maxRecDepth 20000 in
theorem ggX6_takeAll_X6_takeTables : GoodIn wsX6_takeAll wsX6_takeTables := goodIn_r _ [11, 12, 13, 14, 15, 16, 17, 18, 19, 20, 21, 22, 3, 4, 5, 23, 24, 25, 26, 27, 28, 29, 30, 31, 32] rfl rfl
set_option maxRecDepth 20000 in
theorem gX6_takeAll_X6_takeTables : GoodIn wsX6_takeAll (wsV RX6 44 RX6 yX6_takeTables wsX6_takeTables) := goodIn_app (goodIn_of _ (by decide +kernel)) ggX6_takeAll_X6_takeTables
theorem dX6_takeAll_0 : decode cX6_takeAll 0 = .ok (.aload_n 0, 1) := by decide +kernel
theorem dX6_takeAll_1 : decode cX6_takeAll 1 = .ok (.aload_n 1, 1) := by decide +kernel
theorem dX6_takeAll_2 : decode cX6_takeAll 2 = .ok (.invokevirtual 44, 3) := by decide +kernel
theorem dX6_takeAll_5 : decode cX6_takeAll 5 = .ok (.aload_n 1, 1) := by decide +kernel
theorem dX6_takeAll_6 : decode cX6_takeAll 6 = .ok (.getfield 29, 3) := by decide +kernel
theorem dX6_takeAll_9 : decode cX6_takeAll 9 = .ok (.iconst 0, 1) := by decide +kernel
theorem dX6_takeAll_10 : decode cX6_takeAll 10 = .ok (.aload_n 0, 1) := by decide +kernel
theorem dX6_takeAll_11 : decode cX6_takeAll 11 = .ok (.getfield 29, 3) := by decide +kernel
theorem dX6_takeAll_14 : decode cX6_takeAll 14 = .ok (.iconst 0, 1) := by decide +kernel
theorem dX6_takeAll_15 : decode cX6_takeAll 15 = .ok (.bipush 6, 2) := by decide +kernel
theorem dX6_takeAll_17 : decode cX6_takeAll 17 = .ok (.invokestatic 48, 3) := by decide +kernel
theorem dX6_takeAll_20 : decode cX6_takeAll 20 = .ok (.aload_n 1, 1) := by decide +kernel
theorem dX6_takeAll_21 : decode cX6_takeAll 21 = .ok (.getfield 33, 3) := by decide +kernel
theorem dX6_takeAll_24 : decode cX6_takeAll 24 = .ok (.iconst 0, 1) := by decide +kernel
theorem dX6_takeAll_25 : decode cX6_takeAll 25 = .ok (.aload_n 0, 1) := by decide +kernel
theorem dX6_takeAll_26 : decode cX6_takeAll 26 = .ok (.getfield 33, 3) := by decide +kernel
theorem dX6_takeAll_29 : decode cX6_takeAll 29 = .ok (.iconst 0, 1) := by decide +kernel
theorem dX6_takeAll_30 : decode cX6_takeAll 30 = .ok (.bipush 48, 2) := by decide +kernel
theorem dX6_takeAll_32 : decode cX6_takeAll 32 = .ok (.invokestatic 48, 3) := by decide +kernel
theorem dX6_takeAll_35 : decode cX6_takeAll 35 = .ok (.return_, 1) := by decide +kernel
set_option maxRecDepth 20000 in
theorem ggX6_meets_X3_at : GoodIn wsX6_meets wsX3_at := goodIn_r _ [6, 7, 8, 9, 16, 17, 18] rfl rfl
set_option maxRecDepth 20000 in
theorem gX6_meets_X3_at : GoodIn wsX6_meets (wsV RX6 54 RX3 yX3_at wsX3_at) := goodIn_app (goodIn_of _ (by decide +kernel)) ggX6_meets_X3_at
theorem dX6_meets_0 : decode cX6_meets 0 = .ok (.aload_n 0, 1) := by decide +kernel
theorem dX6_meets_1 : decode cX6_meets 1 = .ok (.getfield 14, 3) := by decide +kernel
theorem dX6_meets_4 : decode cX6_meets 4 = .ok (.iload_n 1, 1) := by decide +kernel
theorem dX6_meets_5 : decode cX6_meets 5 = .ok (.iconst 0, 1) := by decide +kernel
theorem dX6_meets_6 : decode cX6_meets 6 = .ok (.invokevirtual 54, 3) := by decide +kernel
theorem dX6_meets_9 : decode cX6_meets 9 = .ok (.iload_n 3, 1) := by decide +kernel
theorem dX6_meets_10 : decode cX6_meets 10 = .ok (.if_icmp .gt 20, 3) := by decide +kernel
theorem dX6_meets_13 : decode cX6_meets 13 = .ok (.aload_n 0, 1) := by decide +kernel
theorem dX6_meets_14 : decode cX6_meets 14 = .ok (.getfield 14, 3) := by decide +kernel
theorem dX6_meets_17 : decode cX6_meets 17 = .ok (.iload_n 1, 1) := by decide +kernel
theorem dX6_meets_18 : decode cX6_meets 18 = .ok (.iconst 1, 1) := by decide +kernel
theorem dX6_meets_19 : decode cX6_meets 19 = .ok (.invokevirtual 54, 3) := by decide +kernel
theorem dX6_meets_22 : decode cX6_meets 22 = .ok (.iload_n 2, 1) := by decide +kernel
theorem dX6_meets_23 : decode cX6_meets 23 = .ok (.if_icmp .lt 7, 3) := by decide +kernel
theorem dX6_meets_26 : decode cX6_meets 26 = .ok (.iconst 1, 1) := by decide +kernel
theorem dX6_meets_27 : decode cX6_meets 27 = .ok (.goto 4, 3) := by decide +kernel
theorem dX6_meets_30 : decode cX6_meets 30 = .ok (.iconst 0, 1) := by decide +kernel
theorem dX6_meets_31 : decode cX6_meets 31 = .ok (.ireturn, 1) := by decide +kernel
set_option maxRecDepth 20000 in
theorem ggX6_ownerOf_X6_meets : GoodIn wsX6_ownerOf wsX6_meets := goodIn_r _ [6, 1, 7, 8, 9, 10, 11, 12, 13, 14, 15, 16, 17, 18, 19, 20, 21, 22, 23] rfl rfl
set_option maxRecDepth 20000 in
theorem gX6_ownerOf_X6_meets : GoodIn wsX6_ownerOf (wsV RX6 58 RX6 yX6_meets wsX6_meets) := goodIn_app (goodIn_of _ (by decide +kernel)) ggX6_ownerOf_X6_meets
theorem dX6_ownerOf_0 : decode cX6_ownerOf 0 = .ok (.iconst 0, 1) := by decide +kernel
theorem dX6_ownerOf_1 : decode cX6_ownerOf 1 = .ok (.istore_n 2, 1) := by decide +kernel
theorem dX6_ownerOf_2 : decode cX6_ownerOf 2 = .ok (.iload_n 2, 1) := by decide +kernel
theorem dX6_ownerOf_3 : decode cX6_ownerOf 3 = .ok (.aload_n 0, 1) := by decide +kernel
theorem dX6_ownerOf_4 : decode cX6_ownerOf 4 = .ok (.getfield 14, 3) := by decide +kernel
theorem dX6_ownerOf_7 : decode cX6_ownerOf 7 = .ok (.getfield 36, 3) := by decide +kernel
theorem dX6_ownerOf_10 : decode cX6_ownerOf 10 = .ok (.if_icmp .ge 21, 3) := by decide +kernel
theorem dX6_ownerOf_13 : decode cX6_ownerOf 13 = .ok (.aload_n 0, 1) := by decide +kernel
theorem dX6_ownerOf_14 : decode cX6_ownerOf 14 = .ok (.iload_n 2, 1) := by decide +kernel
theorem dX6_ownerOf_15 : decode cX6_ownerOf 15 = .ok (.iload_n 1, 1) := by decide +kernel
theorem dX6_ownerOf_16 : decode cX6_ownerOf 16 = .ok (.iload_n 1, 1) := by decide +kernel
theorem dX6_ownerOf_17 : decode cX6_ownerOf 17 = .ok (.invokevirtual 58, 3) := by decide +kernel
theorem dX6_ownerOf_20 : decode cX6_ownerOf 20 = .ok (.ifCond .eq 5, 3) := by decide +kernel
theorem dX6_ownerOf_23 : decode cX6_ownerOf 23 = .ok (.iload_n 2, 1) := by decide +kernel
theorem dX6_ownerOf_24 : decode cX6_ownerOf 24 = .ok (.ireturn, 1) := by decide +kernel
theorem dX6_ownerOf_25 : decode cX6_ownerOf 25 = .ok (.iinc 2 1, 3) := by decide +kernel
theorem dX6_ownerOf_28 : decode cX6_ownerOf 28 = .ok (.goto (-26), 3) := by decide +kernel
theorem dX6_ownerOf_31 : decode cX6_ownerOf 31 = .ok (.bipush (-4), 2) := by decide +kernel
theorem dX6_ownerOf_33 : decode cX6_ownerOf 33 = .ok (.ireturn, 1) := by decide +kernel
set_option maxRecDepth 20000 in
theorem ggX6_sharesAddresses_X3_at : GoodIn wsX6_sharesAddresses wsX3_at := goodIn_r _ [6, 7, 8, 9, 21, 22, 23] rfl rfl
set_option maxRecDepth 20000 in
theorem gX6_sharesAddresses_X3_at : GoodIn wsX6_sharesAddresses (wsV RX6 54 RX3 yX3_at wsX3_at) := goodIn_app (goodIn_of _ (by decide +kernel)) ggX6_sharesAddresses_X3_at
set_option maxRecDepth 20000 in
theorem ggX6_sharesAddresses_X6_meets : GoodIn wsX6_sharesAddresses wsX6_meets := goodIn_r _ [14, 1, 2, 3, 4, 5, 6, 7, 8, 9, 15, 16, 17, 18, 19, 20, 21, 22, 23] rfl rfl
set_option maxRecDepth 20000 in
theorem gX6_sharesAddresses_X6_meets : GoodIn wsX6_sharesAddresses (wsV RX6 58 RX6 yX6_meets wsX6_meets) := goodIn_app (goodIn_of _ (by decide +kernel)) ggX6_sharesAddresses_X6_meets
theorem dX6_sharesAddresses_0 : decode cX6_sharesAddresses 0 = .ok (.iconst 0, 1) := by decide +kernel
theorem dX6_sharesAddresses_1 : decode cX6_sharesAddresses 1 = .ok (.istore_n 1, 1) := by decide +kernel
theorem dX6_sharesAddresses_2 : decode cX6_sharesAddresses 2 = .ok (.iload_n 1, 1) := by decide +kernel
theorem dX6_sharesAddresses_3 : decode cX6_sharesAddresses 3 = .ok (.aload_n 0, 1) := by decide +kernel
theorem dX6_sharesAddresses_4 : decode cX6_sharesAddresses 4 = .ok (.getfield 14, 3) := by decide +kernel
theorem dX6_sharesAddresses_7 : decode cX6_sharesAddresses 7 = .ok (.getfield 36, 3) := by decide +kernel
theorem dX6_sharesAddresses_10 : decode cX6_sharesAddresses 10 = .ok (.if_icmp .ge 50, 3) := by decide +kernel
theorem dX6_sharesAddresses_13 : decode cX6_sharesAddresses 13 = .ok (.iconst 0, 1) := by decide +kernel
theorem dX6_sharesAddresses_14 : decode cX6_sharesAddresses 14 = .ok (.istore_n 2, 1) := by decide +kernel
theorem dX6_sharesAddresses_15 : decode cX6_sharesAddresses 15 = .ok (.iload_n 2, 1) := by decide +kernel
theorem dX6_sharesAddresses_16 : decode cX6_sharesAddresses 16 = .ok (.iload_n 1, 1) := by decide +kernel
theorem dX6_sharesAddresses_17 : decode cX6_sharesAddresses 17 = .ok (.if_icmp .ge 37, 3) := by decide +kernel
theorem dX6_sharesAddresses_20 : decode cX6_sharesAddresses 20 = .ok (.aload_n 0, 1) := by decide +kernel
theorem dX6_sharesAddresses_21 : decode cX6_sharesAddresses 21 = .ok (.iload_n 2, 1) := by decide +kernel
theorem dX6_sharesAddresses_22 : decode cX6_sharesAddresses 22 = .ok (.aload_n 0, 1) := by decide +kernel
theorem dX6_sharesAddresses_23 : decode cX6_sharesAddresses 23 = .ok (.getfield 14, 3) := by decide +kernel
theorem dX6_sharesAddresses_26 : decode cX6_sharesAddresses 26 = .ok (.iload_n 1, 1) := by decide +kernel
theorem dX6_sharesAddresses_27 : decode cX6_sharesAddresses 27 = .ok (.iconst 0, 1) := by decide +kernel
theorem dX6_sharesAddresses_28 : decode cX6_sharesAddresses 28 = .ok (.invokevirtual 54, 3) := by decide +kernel
theorem dX6_sharesAddresses_31 : decode cX6_sharesAddresses 31 = .ok (.aload_n 0, 1) := by decide +kernel
theorem dX6_sharesAddresses_32 : decode cX6_sharesAddresses 32 = .ok (.getfield 14, 3) := by decide +kernel
theorem dX6_sharesAddresses_35 : decode cX6_sharesAddresses 35 = .ok (.iload_n 1, 1) := by decide +kernel
theorem dX6_sharesAddresses_36 : decode cX6_sharesAddresses 36 = .ok (.iconst 1, 1) := by decide +kernel
theorem dX6_sharesAddresses_37 : decode cX6_sharesAddresses 37 = .ok (.invokevirtual 54, 3) := by decide +kernel
theorem dX6_sharesAddresses_40 : decode cX6_sharesAddresses 40 = .ok (.invokevirtual 58, 3) := by decide +kernel
theorem dX6_sharesAddresses_43 : decode cX6_sharesAddresses 43 = .ok (.ifCond .eq 5, 3) := by decide +kernel
theorem dX6_sharesAddresses_46 : decode cX6_sharesAddresses 46 = .ok (.iconst 1, 1) := by decide +kernel
theorem dX6_sharesAddresses_47 : decode cX6_sharesAddresses 47 = .ok (.ireturn, 1) := by decide +kernel
theorem dX6_sharesAddresses_48 : decode cX6_sharesAddresses 48 = .ok (.iinc 2 1, 3) := by decide +kernel
theorem dX6_sharesAddresses_51 : decode cX6_sharesAddresses 51 = .ok (.goto (-36), 3) := by decide +kernel
theorem dX6_sharesAddresses_54 : decode cX6_sharesAddresses 54 = .ok (.iinc 1 1, 3) := by decide +kernel
theorem dX6_sharesAddresses_57 : decode cX6_sharesAddresses 57 = .ok (.goto (-55), 3) := by decide +kernel
theorem dX6_sharesAddresses_60 : decode cX6_sharesAddresses 60 = .ok (.iconst 0, 1) := by decide +kernel
theorem dX6_sharesAddresses_61 : decode cX6_sharesAddresses 61 = .ok (.ireturn, 1) := by decide +kernel
set_option maxRecDepth 20000 in
theorem ggX6_addressesHad_X3_at : GoodIn wsX6_addressesHad wsX3_at := goodIn_r _ [6, 7, 8, 9, 16, 17, 18] rfl rfl
set_option maxRecDepth 20000 in
theorem gX6_addressesHad_X3_at : GoodIn wsX6_addressesHad (wsV RX6 54 RX3 yX3_at wsX3_at) := goodIn_app (goodIn_of _ (by decide +kernel)) ggX6_addressesHad_X3_at
theorem dX6_addressesHad_0 : decode cX6_addressesHad 0 = .ok (.iconst 0, 1) := by decide +kernel
theorem dX6_addressesHad_1 : decode cX6_addressesHad 1 = .ok (.istore_n 1, 1) := by decide +kernel
theorem dX6_addressesHad_2 : decode cX6_addressesHad 2 = .ok (.iconst 0, 1) := by decide +kernel
theorem dX6_addressesHad_3 : decode cX6_addressesHad 3 = .ok (.istore_n 2, 1) := by decide +kernel
theorem dX6_addressesHad_4 : decode cX6_addressesHad 4 = .ok (.iload_n 2, 1) := by decide +kernel
theorem dX6_addressesHad_5 : decode cX6_addressesHad 5 = .ok (.aload_n 0, 1) := by decide +kernel
theorem dX6_addressesHad_6 : decode cX6_addressesHad 6 = .ok (.getfield 14, 3) := by decide +kernel
theorem dX6_addressesHad_9 : decode cX6_addressesHad 9 = .ok (.getfield 36, 3) := by decide +kernel
theorem dX6_addressesHad_12 : decode cX6_addressesHad 12 = .ok (.if_icmp .ge 33, 3) := by decide +kernel
theorem dX6_addressesHad_15 : decode cX6_addressesHad 15 = .ok (.iload_n 1, 1) := by decide +kernel
theorem dX6_addressesHad_16 : decode cX6_addressesHad 16 = .ok (.aload_n 0, 1) := by decide +kernel
theorem dX6_addressesHad_17 : decode cX6_addressesHad 17 = .ok (.getfield 14, 3) := by decide +kernel
theorem dX6_addressesHad_20 : decode cX6_addressesHad 20 = .ok (.iload_n 2, 1) := by decide +kernel
theorem dX6_addressesHad_21 : decode cX6_addressesHad 21 = .ok (.iconst 1, 1) := by decide +kernel
theorem dX6_addressesHad_22 : decode cX6_addressesHad 22 = .ok (.invokevirtual 54, 3) := by decide +kernel
theorem dX6_addressesHad_25 : decode cX6_addressesHad 25 = .ok (.aload_n 0, 1) := by decide +kernel
theorem dX6_addressesHad_26 : decode cX6_addressesHad 26 = .ok (.getfield 14, 3) := by decide +kernel
theorem dX6_addressesHad_29 : decode cX6_addressesHad 29 = .ok (.iload_n 2, 1) := by decide +kernel
theorem dX6_addressesHad_30 : decode cX6_addressesHad 30 = .ok (.iconst 0, 1) := by decide +kernel
theorem dX6_addressesHad_31 : decode cX6_addressesHad 31 = .ok (.invokevirtual 54, 3) := by decide +kernel
theorem dX6_addressesHad_34 : decode cX6_addressesHad 34 = .ok (.isub, 1) := by decide +kernel
theorem dX6_addressesHad_35 : decode cX6_addressesHad 35 = .ok (.iconst 1, 1) := by decide +kernel
theorem dX6_addressesHad_36 : decode cX6_addressesHad 36 = .ok (.iadd, 1) := by decide +kernel
theorem dX6_addressesHad_37 : decode cX6_addressesHad 37 = .ok (.iadd, 1) := by decide +kernel
theorem dX6_addressesHad_38 : decode cX6_addressesHad 38 = .ok (.istore_n 1, 1) := by decide +kernel
theorem dX6_addressesHad_39 : decode cX6_addressesHad 39 = .ok (.iinc 2 1, 3) := by decide +kernel
theorem dX6_addressesHad_42 : decode cX6_addressesHad 42 = .ok (.goto (-38), 3) := by decide +kernel
theorem dX6_addressesHad_45 : decode cX6_addressesHad 45 = .ok (.iload_n 1, 1) := by decide +kernel
theorem dX6_addressesHad_46 : decode cX6_addressesHad 46 = .ok (.ireturn, 1) := by decide +kernel
set_option maxRecDepth 20000 in
theorem ggX6_isCallAt_X3_howMany : GoodIn wsX6_isCallAt wsX3_howMany := goodIn_r _ [6, 7, 8, 9, 10, 5, 11, 12, 13, 20, 21, 22] rfl rfl
set_option maxRecDepth 20000 in
theorem gX6_isCallAt_X3_howMany : GoodIn wsX6_isCallAt (wsV RX6 62 RX3 yX3_howMany wsX3_howMany) := goodIn_app (goodIn_of _ (by decide +kernel)) ggX6_isCallAt_X3_howMany
theorem dX6_isCallAt_0 : decode cX6_isCallAt 0 = .ok (.aload_n 0, 1) := by decide +kernel
theorem dX6_isCallAt_1 : decode cX6_isCallAt 1 = .ok (.getfield 26, 3) := by decide +kernel
theorem dX6_isCallAt_4 : decode cX6_isCallAt 4 = .ok (.iconst 0, 1) := by decide +kernel
theorem dX6_isCallAt_5 : decode cX6_isCallAt 5 = .ok (.iload_n 1, 1) := by decide +kernel
theorem dX6_isCallAt_6 : decode cX6_isCallAt 6 = .ok (.invokevirtual 62, 3) := by decide +kernel
theorem dX6_isCallAt_9 : decode cX6_isCallAt 9 = .ok (.ifCond .le 7, 3) := by decide +kernel
theorem dX6_isCallAt_12 : decode cX6_isCallAt 12 = .ok (.iconst 1, 1) := by decide +kernel
theorem dX6_isCallAt_13 : decode cX6_isCallAt 13 = .ok (.goto 4, 3) := by decide +kernel
theorem dX6_isCallAt_16 : decode cX6_isCallAt 16 = .ok (.iconst 0, 1) := by decide +kernel
theorem dX6_isCallAt_17 : decode cX6_isCallAt 17 = .ok (.ireturn, 1) := by decide +kernel
set_option maxRecDepth 20000 in
theorem ggX6_isCallInto_X3_at : GoodIn wsX6_isCallInto wsX3_at := goodIn_r _ [6, 7, 8, 9, 22, 23, 24] rfl rfl
set_option maxRecDepth 20000 in
theorem gX6_isCallInto_X3_at : GoodIn wsX6_isCallInto (wsV RX6 54 RX3 yX3_at wsX3_at) := goodIn_app (goodIn_of _ (by decide +kernel)) ggX6_isCallInto_X3_at
set_option maxRecDepth 20000 in
theorem ggX6_isCallInto_X6_meets : GoodIn wsX6_isCallInto wsX6_meets := goodIn_r _ [14, 15, 2, 3, 4, 5, 6, 7, 8, 9, 16, 17, 18, 19, 20, 21, 22, 23, 24] rfl rfl
set_option maxRecDepth 20000 in
theorem gX6_isCallInto_X6_meets : GoodIn wsX6_isCallInto (wsV RX6 58 RX6 yX6_meets wsX6_meets) := goodIn_app (goodIn_of _ (by decide +kernel)) ggX6_isCallInto_X6_meets
theorem dX6_isCallInto_0 : decode cX6_isCallInto 0 = .ok (.iconst 0, 1) := by decide +kernel
theorem dX6_isCallInto_1 : decode cX6_isCallInto 1 = .ok (.istore_n 3, 1) := by decide +kernel
theorem dX6_isCallInto_2 : decode cX6_isCallInto 2 = .ok (.iload_n 3, 1) := by decide +kernel
theorem dX6_isCallInto_3 : decode cX6_isCallInto 3 = .ok (.aload_n 0, 1) := by decide +kernel
theorem dX6_isCallInto_4 : decode cX6_isCallInto 4 = .ok (.getfield 26, 3) := by decide +kernel
theorem dX6_isCallInto_7 : decode cX6_isCallInto 7 = .ok (.getfield 36, 3) := by decide +kernel
theorem dX6_isCallInto_10 : decode cX6_isCallInto 10 = .ok (.if_icmp .ge 47, 3) := by decide +kernel
theorem dX6_isCallInto_13 : decode cX6_isCallInto 13 = .ok (.aload_n 0, 1) := by decide +kernel
theorem dX6_isCallInto_14 : decode cX6_isCallInto 14 = .ok (.getfield 26, 3) := by decide +kernel
theorem dX6_isCallInto_17 : decode cX6_isCallInto 17 = .ok (.iload_n 3, 1) := by decide +kernel
theorem dX6_isCallInto_18 : decode cX6_isCallInto 18 = .ok (.iconst 1, 1) := by decide +kernel
theorem dX6_isCallInto_19 : decode cX6_isCallInto 19 = .ok (.invokevirtual 54, 3) := by decide +kernel
theorem dX6_isCallInto_22 : decode cX6_isCallInto 22 = .ok (.istore 4, 2) := by decide +kernel
theorem dX6_isCallInto_24 : decode cX6_isCallInto 24 = .ok (.aload_n 0, 1) := by decide +kernel
theorem dX6_isCallInto_25 : decode cX6_isCallInto 25 = .ok (.getfield 26, 3) := by decide +kernel
theorem dX6_isCallInto_28 : decode cX6_isCallInto 28 = .ok (.iload_n 3, 1) := by decide +kernel
theorem dX6_isCallInto_29 : decode cX6_isCallInto 29 = .ok (.iconst 0, 1) := by decide +kernel
theorem dX6_isCallInto_30 : decode cX6_isCallInto 30 = .ok (.invokevirtual 54, 3) := by decide +kernel
theorem dX6_isCallInto_33 : decode cX6_isCallInto 33 = .ok (.iload_n 1, 1) := by decide +kernel
theorem dX6_isCallInto_34 : decode cX6_isCallInto 34 = .ok (.if_icmp .ne 17, 3) := by decide +kernel
theorem dX6_isCallInto_37 : decode cX6_isCallInto 37 = .ok (.aload_n 0, 1) := by decide +kernel
theorem dX6_isCallInto_38 : decode cX6_isCallInto 38 = .ok (.iload_n 2, 1) := by decide +kernel
theorem dX6_isCallInto_39 : decode cX6_isCallInto 39 = .ok (.iload 4, 2) := by decide +kernel
theorem dX6_isCallInto_41 : decode cX6_isCallInto 41 = .ok (.iload 4, 2) := by decide +kernel
theorem dX6_isCallInto_43 : decode cX6_isCallInto 43 = .ok (.invokevirtual 58, 3) := by decide +kernel
theorem dX6_isCallInto_46 : decode cX6_isCallInto 46 = .ok (.ifCond .eq 5, 3) := by decide +kernel
theorem dX6_isCallInto_49 : decode cX6_isCallInto 49 = .ok (.iconst 1, 1) := by decide +kernel
theorem dX6_isCallInto_50 : decode cX6_isCallInto 50 = .ok (.ireturn, 1) := by decide +kernel
theorem dX6_isCallInto_51 : decode cX6_isCallInto 51 = .ok (.iinc 3 1, 3) := by decide +kernel
theorem dX6_isCallInto_54 : decode cX6_isCallInto 54 = .ok (.goto (-52), 3) := by decide +kernel
theorem dX6_isCallInto_57 : decode cX6_isCallInto 57 = .ok (.iconst 0, 1) := by decide +kernel
theorem dX6_isCallInto_58 : decode cX6_isCallInto 58 = .ok (.ireturn, 1) := by decide +kernel
