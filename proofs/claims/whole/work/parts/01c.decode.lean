theorem dX4_init_0 : decode cX4_init 0 = .ok (.aload_n 0, 1) := by decide +kernel
theorem dX4_init_1 : decode cX4_init 1 = .ok (.invokespecial 3, 3) := by decide +kernel
theorem dX4_init_4 : decode cX4_init 4 = .ok (.aload_n 0, 1) := by decide +kernel
theorem dX4_init_5 : decode cX4_init 5 = .ok (.sipush 320, 3) := by decide +kernel
theorem dX4_init_8 : decode cX4_init 8 = .ok (.newarray .int, 2) := by decide +kernel
theorem dX4_init_10 : decode cX4_init 10 = .ok (.putfield 9, 3) := by decide +kernel
theorem dX4_init_13 : decode cX4_init 13 = .ok (.aload_n 0, 1) := by decide +kernel
theorem dX4_init_14 : decode cX4_init 14 = .ok (.iconst 0, 1) := by decide +kernel
theorem dX4_init_15 : decode cX4_init 15 = .ok (.putfield 15, 3) := by decide +kernel
theorem dX4_init_18 : decode cX4_init 18 = .ok (.aload_n 0, 1) := by decide +kernel
theorem dX4_init_19 : decode cX4_init 19 = .ok (.iconst 0, 1) := by decide +kernel
theorem dX4_init_20 : decode cX4_init 20 = .ok (.putfield 19, 3) := by decide +kernel
theorem dX4_init_23 : decode cX4_init 23 = .ok (.aload_n 0, 1) := by decide +kernel
theorem dX4_init_24 : decode cX4_init 24 = .ok (.iconst 0, 1) := by decide +kernel
theorem dX4_init_25 : decode cX4_init 25 = .ok (.putfield 22, 3) := by decide +kernel
theorem dX4_init_28 : decode cX4_init 28 = .ok (.aload_n 0, 1) := by decide +kernel
theorem dX4_init_29 : decode cX4_init 29 = .ok (.iconst 0, 1) := by decide +kernel
theorem dX4_init_30 : decode cX4_init 30 = .ok (.putfield 25, 3) := by decide +kernel
theorem dX4_init_33 : decode cX4_init 33 = .ok (.aload_n 0, 1) := by decide +kernel
theorem dX4_init_34 : decode cX4_init 34 = .ok (.iconst 0, 1) := by decide +kernel
theorem dX4_init_35 : decode cX4_init 35 = .ok (.putfield 28, 3) := by decide +kernel
theorem dX4_init_38 : decode cX4_init 38 = .ok (.aload_n 0, 1) := by decide +kernel
theorem dX4_init_39 : decode cX4_init 39 = .ok (.iconst 0, 1) := by decide +kernel
theorem dX4_init_40 : decode cX4_init 40 = .ok (.putfield 31, 3) := by decide +kernel
theorem dX4_init_43 : decode cX4_init 43 = .ok (.aload_n 0, 1) := by decide +kernel
theorem dX4_init_44 : decode cX4_init 44 = .ok (.iconst 0, 1) := by decide +kernel
theorem dX4_init_45 : decode cX4_init 45 = .ok (.putfield 34, 3) := by decide +kernel
theorem dX4_init_48 : decode cX4_init 48 = .ok (.aload_n 0, 1) := by decide +kernel
theorem dX4_init_49 : decode cX4_init 49 = .ok (.iconst 4, 1) := by decide +kernel
theorem dX4_init_50 : decode cX4_init 50 = .ok (.newarray .int, 2) := by decide +kernel
theorem dX4_init_52 : decode cX4_init 52 = .ok (.putfield 37, 3) := by decide +kernel
theorem dX4_init_55 : decode cX4_init 55 = .ok (.return_, 1) := by decide +kernel
set_option maxRecDepth 20000 in
theorem ggX4_tellAll_X6_clearTables : GoodIn wsX4_tellAll wsX6_clearTables := goodIn_r _ [10, 11, 12, 13, 14, 171, 172, 173, 174, 175, 176, 177, 178, 179] rfl rfl
set_option maxRecDepth 20000 in
theorem gX4_tellAll_X6_clearTables : GoodIn wsX4_tellAll (wsV RX4 40 RX6 yX6_clearTables wsX6_clearTables) := goodIn_app (goodIn_of _ (by decide +kernel)) ggX4_tellAll_X6_clearTables
set_option maxRecDepth 20000 in
theorem ggX4_tellAll_X4_nextToken : GoodIn wsX4_tellAll wsX4_nextToken := goodIn_r _ [19, 3, 5, 20, 21, 22, 4, 23, 24, 18, 25, 26, 27, 28, 29, 30, 31, 32, 33, 34, 35, 36, 37, 38, 39, 40, 1, 2, 162, 163, 164, 165, 166, 167, 168, 169, 170] rfl rfl
set_option maxRecDepth 20000 in
theorem gX4_tellAll_X4_nextToken : GoodIn wsX4_tellAll (wsV RX4 45 RX4 yX4_nextToken wsX4_nextToken) := goodIn_app (goodIn_of _ (by decide +kernel)) ggX4_tellAll_X4_nextToken
set_option maxRecDepth 20000 in
theorem ggX4_tellAll_X4_tellLine : GoodIn wsX4_tellAll wsX4_tellLine := goodIn_r _ [44, 1, 4, 45, 46, 47, 18, 48, 49, 50, 51, 52, 53, 54, 55, 3, 21, 20, 56, 57, 58, 59, 60, 61, 62, 63, 64, 65, 66, 67, 68, 69, 70, 71, 72, 73, 74, 75, 76, 77, 78, 79, 80, 81, 82, 83, 84, 85, 86, 87, 88, 89, 90, 91, 92, 93, 94, 95, 96, 97, 98, 99, 100, 101, 102, 103, 104, 105, 106, 107, 108, 37, 38, 39, 40, 2, 109, 110, 111, 112, 113, 114, 115, 116, 117, 118, 119, 120, 121, 122, 123, 15, 16, 17, 19, 5, 22, 23, 24, 25, 26, 27, 28, 29, 30, 31, 32, 33, 34, 35, 36, 124, 125, 126, 127, 128, 129, 130, 131, 132, 133, 134, 135, 136, 137, 138, 139, 140, 141, 142, 143, 144, 145, 146, 147, 148, 149, 162, 163, 164, 165, 166, 167, 168, 169, 170, 171, 172, 173, 174, 175, 176, 177, 178, 179] rfl rfl
set_option maxRecDepth 20000 in
theorem gX4_tellAll_X4_tellLine : GoodIn wsX4_tellAll (wsV RX4 48 RX4 yX4_tellLine wsX4_tellLine) := goodIn_app (goodIn_of _ (by decide +kernel)) ggX4_tellAll_X4_tellLine
set_option maxRecDepth 20000 in
theorem ggX4_tellAll_X6_sharesAddresses : GoodIn wsX4_tellAll wsX6_sharesAddresses := goodIn_r _ [153, 11, 154, 155, 156, 119, 157, 121, 122, 123, 158, 159, 160, 9, 161, 171, 172, 173, 174, 175, 176, 177, 178, 179] rfl rfl
set_option maxRecDepth 20000 in
theorem gX4_tellAll_X6_sharesAddresses : GoodIn wsX4_tellAll (wsV RX4 52 RX6 yX6_sharesAddresses wsX6_sharesAddresses) := goodIn_app (goodIn_of _ (by decide +kernel)) ggX4_tellAll_X6_sharesAddresses
set_option maxRecDepth 20000 in
theorem ggX4_tellAll_X4_refuse : GoodIn wsX4_tellAll wsX4_refuse := goodIn_r _ [40, 1, 2, 162, 163, 164, 165, 166, 167, 168, 169, 170] rfl rfl
set_option maxRecDepth 20000 in
theorem gX4_tellAll_X4_refuse : GoodIn wsX4_tellAll (wsV RX4 56 RX4 yX4_refuse wsX4_refuse) := goodIn_app (goodIn_of _ (by decide +kernel)) ggX4_tellAll_X4_refuse
theorem dX4_tellAll_0 : decode cX4_tellAll 0 = .ok (.aload_n 1, 1) := by decide +kernel
theorem dX4_tellAll_1 : decode cX4_tellAll 1 = .ok (.invokevirtual 40, 3) := by decide +kernel
theorem dX4_tellAll_4 : decode cX4_tellAll 4 = .ok (.aload_n 0, 1) := by decide +kernel
theorem dX4_tellAll_5 : decode cX4_tellAll 5 = .ok (.iconst 0, 1) := by decide +kernel
theorem dX4_tellAll_6 : decode cX4_tellAll 6 = .ok (.putfield 19, 3) := by decide +kernel
theorem dX4_tellAll_9 : decode cX4_tellAll 9 = .ok (.aload_n 0, 1) := by decide +kernel
theorem dX4_tellAll_10 : decode cX4_tellAll 10 = .ok (.iconst 0, 1) := by decide +kernel
theorem dX4_tellAll_11 : decode cX4_tellAll 11 = .ok (.putfield 22, 3) := by decide +kernel
theorem dX4_tellAll_14 : decode cX4_tellAll 14 = .ok (.aload_n 0, 1) := by decide +kernel
theorem dX4_tellAll_15 : decode cX4_tellAll 15 = .ok (.iconst 0, 1) := by decide +kernel
theorem dX4_tellAll_16 : decode cX4_tellAll 16 = .ok (.putfield 31, 3) := by decide +kernel
theorem dX4_tellAll_19 : decode cX4_tellAll 19 = .ok (.aload_n 0, 1) := by decide +kernel
theorem dX4_tellAll_20 : decode cX4_tellAll 20 = .ok (.invokevirtual 45, 3) := by decide +kernel
theorem dX4_tellAll_23 : decode cX4_tellAll 23 = .ok (.iconst 0, 1) := by decide +kernel
theorem dX4_tellAll_24 : decode cX4_tellAll 24 = .ok (.istore_n 2, 1) := by decide +kernel
theorem dX4_tellAll_25 : decode cX4_tellAll 25 = .ok (.iload_n 2, 1) := by decide +kernel
theorem dX4_tellAll_26 : decode cX4_tellAll 26 = .ok (.sipush 320, 3) := by decide +kernel
theorem dX4_tellAll_29 : decode cX4_tellAll 29 = .ok (.if_icmp .ge 28, 3) := by decide +kernel
theorem dX4_tellAll_32 : decode cX4_tellAll 32 = .ok (.aload_n 0, 1) := by decide +kernel
theorem dX4_tellAll_33 : decode cX4_tellAll 33 = .ok (.getfield 25, 3) := by decide +kernel
theorem dX4_tellAll_36 : decode cX4_tellAll 36 = .ok (.ifCond .eq 21, 3) := by decide +kernel
theorem dX4_tellAll_39 : decode cX4_tellAll 39 = .ok (.aload_n 0, 1) := by decide +kernel
theorem dX4_tellAll_40 : decode cX4_tellAll 40 = .ok (.getfield 19, 3) := by decide +kernel
theorem dX4_tellAll_43 : decode cX4_tellAll 43 = .ok (.ifCond .ne 14, 3) := by decide +kernel
theorem dX4_tellAll_46 : decode cX4_tellAll 46 = .ok (.aload_n 0, 1) := by decide +kernel
theorem dX4_tellAll_47 : decode cX4_tellAll 47 = .ok (.aload_n 1, 1) := by decide +kernel
theorem dX4_tellAll_48 : decode cX4_tellAll 48 = .ok (.invokevirtual 48, 3) := by decide +kernel
theorem dX4_tellAll_51 : decode cX4_tellAll 51 = .ok (.iinc 2 1, 3) := by decide +kernel
theorem dX4_tellAll_54 : decode cX4_tellAll 54 = .ok (.goto (-29), 3) := by decide +kernel
theorem dX4_tellAll_57 : decode cX4_tellAll 57 = .ok (.aload_n 0, 1) := by decide +kernel
theorem dX4_tellAll_58 : decode cX4_tellAll 58 = .ok (.getfield 19, 3) := by decide +kernel
theorem dX4_tellAll_61 : decode cX4_tellAll 61 = .ok (.ifCond .ne 20, 3) := by decide +kernel
theorem dX4_tellAll_64 : decode cX4_tellAll 64 = .ok (.aload_n 1, 1) := by decide +kernel
theorem dX4_tellAll_65 : decode cX4_tellAll 65 = .ok (.invokevirtual 52, 3) := by decide +kernel
theorem dX4_tellAll_68 : decode cX4_tellAll 68 = .ok (.ifCond .eq 13, 3) := by decide +kernel
theorem dX4_tellAll_71 : decode cX4_tellAll 71 = .ok (.aload_n 0, 1) := by decide +kernel
theorem dX4_tellAll_72 : decode cX4_tellAll 72 = .ok (.bipush 6, 2) := by decide +kernel
theorem dX4_tellAll_74 : decode cX4_tellAll 74 = .ok (.aload_n 0, 1) := by decide +kernel
theorem dX4_tellAll_75 : decode cX4_tellAll 75 = .ok (.getfield 15, 3) := by decide +kernel
theorem dX4_tellAll_78 : decode cX4_tellAll 78 = .ok (.invokevirtual 56, 3) := by decide +kernel
theorem dX4_tellAll_81 : decode cX4_tellAll 81 = .ok (.aload_n 0, 1) := by decide +kernel
theorem dX4_tellAll_82 : decode cX4_tellAll 82 = .ok (.getfield 19, 3) := by decide +kernel
theorem dX4_tellAll_85 : decode cX4_tellAll 85 = .ok (.ifCond .ne 7, 3) := by decide +kernel
theorem dX4_tellAll_88 : decode cX4_tellAll 88 = .ok (.iload_n 2, 1) := by decide +kernel
theorem dX4_tellAll_89 : decode cX4_tellAll 89 = .ok (.goto 10, 3) := by decide +kernel
theorem dX4_tellAll_92 : decode cX4_tellAll 92 = .ok (.bipush (-10), 2) := by decide +kernel
theorem dX4_tellAll_94 : decode cX4_tellAll 94 = .ok (.aload_n 0, 1) := by decide +kernel
theorem dX4_tellAll_95 : decode cX4_tellAll 95 = .ok (.getfield 22, 3) := by decide +kernel
theorem dX4_tellAll_98 : decode cX4_tellAll 98 = .ok (.isub, 1) := by decide +kernel
theorem dX4_tellAll_99 : decode cX4_tellAll 99 = .ok (.ireturn, 1) := by decide +kernel
set_option maxRecDepth 20000 in
theorem ggX4_tellLine_X4_lineNamed : GoodIn wsX4_tellLine wsX4_lineNamed := goodIn_r _ [7, 8, 9, 6, 10, 11, 12, 13, 14, 2, 15, 16, 17, 18, 19, 20, 21, 22, 23, 24, 25, 26, 27, 28, 29, 30, 31, 32, 33, 34, 35, 36, 37, 38, 39, 40, 41, 42, 43, 44, 45, 46, 47, 48, 49, 50, 51, 52, 53, 54, 55, 56, 57, 58, 59, 60, 61, 62, 63, 64, 65, 66, 67, 68, 69, 70, 71, 72, 73, 74, 1, 75, 137, 138, 139, 140, 141, 142, 143, 144, 145] rfl rfl
set_option maxRecDepth 20000 in
theorem gX4_tellLine_X4_lineNamed : GoodIn wsX4_tellLine (wsV RX4 60 RX4 yX4_lineNamed wsX4_lineNamed) := goodIn_app (goodIn_of _ (by decide +kernel)) ggX4_tellLine_X4_lineNamed
set_option maxRecDepth 20000 in
theorem ggX4_tellLine_X4_refuseTooMany : GoodIn wsX4_tellLine wsX4_refuseTooMany := goodIn_r _ [79, 16, 80, 81, 6, 82, 83, 84, 85, 86, 87, 88, 89, 90, 71, 72, 73, 74, 1, 75, 146, 147, 148, 149, 150, 151, 152, 153, 154, 137, 138, 139, 140, 141, 142, 143, 144, 145] rfl rfl
set_option maxRecDepth 20000 in
theorem gX4_tellLine_X4_refuseTooMany : GoodIn wsX4_tellLine (wsV RX4 64 RX4 yX4_refuseTooMany wsX4_refuseTooMany) := goodIn_app (goodIn_of _ (by decide +kernel)) ggX4_tellLine_X4_refuseTooMany
set_option maxRecDepth 20000 in
theorem ggX4_tellLine_X4_nextToken : GoodIn wsX4_tellLine wsX4_nextToken := goodIn_r _ [94, 15, 95, 17, 16, 96, 2, 97, 98, 6, 99, 100, 101, 102, 103, 104, 105, 106, 107, 108, 109, 110, 71, 72, 73, 74, 1, 75, 137, 138, 139, 140, 141, 142, 143, 144, 145] rfl rfl
set_option maxRecDepth 20000 in
theorem gX4_tellLine_X4_nextToken : GoodIn wsX4_tellLine (wsV RX4 45 RX4 yX4_nextToken wsX4_nextToken) := goodIn_app (goodIn_of _ (by decide +kernel)) ggX4_tellLine_X4_nextToken
set_option maxRecDepth 20000 in
theorem ggX4_tellLine_X4_takeOperand : GoodIn wsX4_tellLine wsX4_takeOperand := goodIn_r _ [114, 16, 115, 2, 1, 96, 116, 117, 118, 6, 119, 15, 17, 67, 68, 69, 70, 71, 72, 73, 74, 75, 120, 121, 122, 123, 137, 138, 139, 140, 141, 142, 143, 144, 145] rfl rfl
set_option maxRecDepth 20000 in
theorem gX4_tellLine_X4_takeOperand : GoodIn wsX4_tellLine (wsV RX4 71 RX4 yX4_takeOperand wsX4_takeOperand) := goodIn_app (goodIn_of _ (by decide +kernel)) ggX4_tellLine_X4_takeOperand
set_option maxRecDepth 20000 in
theorem ggX4_tellLine_X4_refuseUnless : GoodIn wsX4_tellLine wsX4_refuseUnless := goodIn_r _ [70, 16, 71, 72, 73, 6, 74, 1, 75, 137, 138, 139, 140, 141, 142, 143, 144, 145] rfl rfl
set_option maxRecDepth 20000 in
theorem gX4_tellLine_X4_refuseUnless : GoodIn wsX4_tellLine (wsV RX4 74 RX4 yX4_refuseUnless wsX4_refuseUnless) := goodIn_app (goodIn_of _ (by decide +kernel)) ggX4_tellLine_X4_refuseUnless
set_option maxRecDepth 20000 in
theorem ggX4_tellLine_X4_addLine : GoodIn wsX4_tellLine wsX4_addLine := goodIn_r _ [127, 115, 80, 81, 6, 82, 128, 129, 130, 86, 131, 88, 132, 84, 85, 87, 89, 90, 133, 134, 135, 136, 152, 153, 154, 146, 147, 148, 149, 150, 151, 137, 138, 139, 140, 141, 142, 143, 144, 145] rfl rfl
set_option maxRecDepth 20000 in
theorem gX4_tellLine_X4_addLine : GoodIn wsX4_tellLine (wsV RX4 78 RX4 yX4_addLine wsX4_addLine) := goodIn_app (goodIn_of _ (by decide +kernel)) ggX4_tellLine_X4_addLine
theorem dX4_tellLine_0 : decode cX4_tellLine 0 = .ok (.aload_n 0, 1) := by decide +kernel
theorem dX4_tellLine_1 : decode cX4_tellLine 1 = .ok (.invokevirtual 60, 3) := by decide +kernel
theorem dX4_tellLine_4 : decode cX4_tellLine 4 = .ok (.istore_n 2, 1) := by decide +kernel
theorem dX4_tellLine_5 : decode cX4_tellLine 5 = .ok (.aload_n 0, 1) := by decide +kernel
theorem dX4_tellLine_6 : decode cX4_tellLine 6 = .ok (.getfield 19, 3) := by decide +kernel
theorem dX4_tellLine_9 : decode cX4_tellLine 9 = .ok (.ifCond .ne 9, 3) := by decide +kernel
theorem dX4_tellLine_12 : decode cX4_tellLine 12 = .ok (.aload_n 0, 1) := by decide +kernel
theorem dX4_tellLine_13 : decode cX4_tellLine 13 = .ok (.aload_n 1, 1) := by decide +kernel
theorem dX4_tellLine_14 : decode cX4_tellLine 14 = .ok (.iload_n 2, 1) := by decide +kernel
theorem dX4_tellLine_15 : decode cX4_tellLine 15 = .ok (.invokevirtual 64, 3) := by decide +kernel
theorem dX4_tellLine_18 : decode cX4_tellLine 18 = .ok (.iconst 0, 1) := by decide +kernel
theorem dX4_tellLine_19 : decode cX4_tellLine 19 = .ok (.istore_n 3, 1) := by decide +kernel
theorem dX4_tellLine_20 : decode cX4_tellLine 20 = .ok (.iload_n 3, 1) := by decide +kernel
theorem dX4_tellLine_21 : decode cX4_tellLine 21 = .ok (.iconst 4, 1) := by decide +kernel
theorem dX4_tellLine_22 : decode cX4_tellLine 22 = .ok (.if_icmp .ge 43, 3) := by decide +kernel
theorem dX4_tellLine_25 : decode cX4_tellLine 25 = .ok (.aload_n 0, 1) := by decide +kernel
theorem dX4_tellLine_26 : decode cX4_tellLine 26 = .ok (.getfield 19, 3) := by decide +kernel
theorem dX4_tellLine_29 : decode cX4_tellLine 29 = .ok (.ifCond .ne 36, 3) := by decide +kernel
theorem dX4_tellLine_32 : decode cX4_tellLine 32 = .ok (.getstatic 68, 3) := by decide +kernel
theorem dX4_tellLine_35 : decode cX4_tellLine 35 = .ok (.iload_n 2, 1) := by decide +kernel
theorem dX4_tellLine_36 : decode cX4_tellLine 36 = .ok (.iconst 4, 1) := by decide +kernel
theorem dX4_tellLine_37 : decode cX4_tellLine 37 = .ok (.imul, 1) := by decide +kernel
theorem dX4_tellLine_38 : decode cX4_tellLine 38 = .ok (.iload_n 3, 1) := by decide +kernel
theorem dX4_tellLine_39 : decode cX4_tellLine 39 = .ok (.iadd, 1) := by decide +kernel
theorem dX4_tellLine_40 : decode cX4_tellLine 40 = .ok (.iaload, 1) := by decide +kernel
theorem dX4_tellLine_41 : decode cX4_tellLine 41 = .ok (.istore 4, 2) := by decide +kernel
theorem dX4_tellLine_43 : decode cX4_tellLine 43 = .ok (.iload 4, 2) := by decide +kernel
theorem dX4_tellLine_45 : decode cX4_tellLine 45 = .ok (.ifCond .eq 14, 3) := by decide +kernel
theorem dX4_tellLine_48 : decode cX4_tellLine 48 = .ok (.aload_n 0, 1) := by decide +kernel
theorem dX4_tellLine_49 : decode cX4_tellLine 49 = .ok (.invokevirtual 45, 3) := by decide +kernel
theorem dX4_tellLine_52 : decode cX4_tellLine 52 = .ok (.aload_n 0, 1) := by decide +kernel
theorem dX4_tellLine_53 : decode cX4_tellLine 53 = .ok (.iload_n 3, 1) := by decide +kernel
theorem dX4_tellLine_54 : decode cX4_tellLine 54 = .ok (.iload 4, 2) := by decide +kernel
theorem dX4_tellLine_56 : decode cX4_tellLine 56 = .ok (.invokevirtual 71, 3) := by decide +kernel
theorem dX4_tellLine_59 : decode cX4_tellLine 59 = .ok (.iinc 3 1, 3) := by decide +kernel
theorem dX4_tellLine_62 : decode cX4_tellLine 62 = .ok (.goto (-42), 3) := by decide +kernel
theorem dX4_tellLine_65 : decode cX4_tellLine 65 = .ok (.aload_n 0, 1) := by decide +kernel
theorem dX4_tellLine_66 : decode cX4_tellLine 66 = .ok (.getfield 19, 3) := by decide +kernel
theorem dX4_tellLine_69 : decode cX4_tellLine 69 = .ok (.ifCond .ne 24, 3) := by decide +kernel
theorem dX4_tellLine_72 : decode cX4_tellLine 72 = .ok (.aload_n 0, 1) := by decide +kernel
theorem dX4_tellLine_73 : decode cX4_tellLine 73 = .ok (.invokevirtual 45, 3) := by decide +kernel
theorem dX4_tellLine_76 : decode cX4_tellLine 76 = .ok (.aload_n 0, 1) := by decide +kernel
theorem dX4_tellLine_77 : decode cX4_tellLine 77 = .ok (.aload_n 0, 1) := by decide +kernel
theorem dX4_tellLine_78 : decode cX4_tellLine 78 = .ok (.getfield 25, 3) := by decide +kernel
theorem dX4_tellLine_81 : decode cX4_tellLine 81 = .ok (.iconst 4, 1) := by decide +kernel
theorem dX4_tellLine_82 : decode cX4_tellLine 82 = .ok (.if_icmp .ne 7, 3) := by decide +kernel
theorem dX4_tellLine_85 : decode cX4_tellLine 85 = .ok (.iconst 1, 1) := by decide +kernel
theorem dX4_tellLine_86 : decode cX4_tellLine 86 = .ok (.goto 4, 3) := by decide +kernel
theorem dX4_tellLine_89 : decode cX4_tellLine 89 = .ok (.iconst 0, 1) := by decide +kernel
theorem dX4_tellLine_90 : decode cX4_tellLine 90 = .ok (.invokevirtual 74, 3) := by decide +kernel
theorem dX4_tellLine_93 : decode cX4_tellLine 93 = .ok (.aload_n 0, 1) := by decide +kernel
theorem dX4_tellLine_94 : decode cX4_tellLine 94 = .ok (.getfield 19, 3) := by decide +kernel
theorem dX4_tellLine_97 : decode cX4_tellLine 97 = .ok (.ifCond .ne 13, 3) := by decide +kernel
theorem dX4_tellLine_100 : decode cX4_tellLine 100 = .ok (.aload_n 0, 1) := by decide +kernel
theorem dX4_tellLine_101 : decode cX4_tellLine 101 = .ok (.aload_n 1, 1) := by decide +kernel
theorem dX4_tellLine_102 : decode cX4_tellLine 102 = .ok (.iload_n 2, 1) := by decide +kernel
theorem dX4_tellLine_103 : decode cX4_tellLine 103 = .ok (.invokevirtual 78, 3) := by decide +kernel
theorem dX4_tellLine_106 : decode cX4_tellLine 106 = .ok (.aload_n 0, 1) := by decide +kernel
theorem dX4_tellLine_107 : decode cX4_tellLine 107 = .ok (.invokevirtual 45, 3) := by decide +kernel
theorem dX4_tellLine_110 : decode cX4_tellLine 110 = .ok (.return_, 1) := by decide +kernel
set_option maxRecDepth 20000 in
theorem ggX4_lineNamed_X4_nameOf : GoodIn wsX4_lineNamed wsX4_nameOf := goodIn_r _ [4] rfl rfl
set_option maxRecDepth 20000 in
theorem gX4_lineNamed_X4_nameOf : GoodIn wsX4_lineNamed (va_wsS RX4 81 yX4_nameOf wsX4_nameOf) := goodIn_app (goodIn_of _ (by decide +kernel)) ggX4_lineNamed_X4_nameOf
set_option maxRecDepth 20000 in
theorem ggX4_lineNamed_X4_isNamed : GoodIn wsX4_lineNamed wsX4_isNamed := goodIn_r _ [8, 9, 10, 11, 12, 13, 14, 15, 16, 17, 18, 19, 20, 21, 22, 23, 24, 25, 26, 27, 28, 29, 30, 31, 32, 33, 34, 35, 36, 37, 38, 39, 40, 41, 42, 43, 44, 45, 46, 47, 48, 49, 50, 51, 52, 53, 54, 55, 56, 57, 58, 59, 60, 61, 72, 73, 74, 75, 76, 77, 78, 79, 80] rfl rfl
set_option maxRecDepth 20000 in
theorem gX4_lineNamed_X4_isNamed : GoodIn wsX4_lineNamed (wsV RX4 85 RX4 yX4_isNamed wsX4_isNamed) := goodIn_app (goodIn_of _ (by decide +kernel)) ggX4_lineNamed_X4_isNamed
set_option maxRecDepth 20000 in
theorem ggX4_lineNamed_X4_refuseUnless : GoodIn wsX4_lineNamed wsX4_refuseUnless := goodIn_r _ [65, 11, 66, 67, 68, 3, 69, 70, 71, 72, 73, 74, 75, 76, 77, 78, 79, 80] rfl rfl
set_option maxRecDepth 20000 in
theorem gX4_lineNamed_X4_refuseUnless : GoodIn wsX4_lineNamed (wsV RX4 74 RX4 yX4_refuseUnless wsX4_refuseUnless) := goodIn_app (goodIn_of _ (by decide +kernel)) ggX4_lineNamed_X4_refuseUnless
theorem dX4_lineNamed_0 : decode cX4_lineNamed 0 = .ok (.iconst 0, 1) := by decide +kernel
theorem dX4_lineNamed_1 : decode cX4_lineNamed 1 = .ok (.istore_n 1, 1) := by decide +kernel
theorem dX4_lineNamed_2 : decode cX4_lineNamed 2 = .ok (.iload_n 1, 1) := by decide +kernel
theorem dX4_lineNamed_3 : decode cX4_lineNamed 3 = .ok (.bipush 12, 2) := by decide +kernel
theorem dX4_lineNamed_5 : decode cX4_lineNamed 5 = .ok (.if_icmp .ge 20, 3) := by decide +kernel
theorem dX4_lineNamed_8 : decode cX4_lineNamed 8 = .ok (.aload_n 0, 1) := by decide +kernel
theorem dX4_lineNamed_9 : decode cX4_lineNamed 9 = .ok (.iload_n 1, 1) := by decide +kernel
theorem dX4_lineNamed_10 : decode cX4_lineNamed 10 = .ok (.invokestatic 81, 3) := by decide +kernel
theorem dX4_lineNamed_13 : decode cX4_lineNamed 13 = .ok (.invokevirtual 85, 3) := by decide +kernel
theorem dX4_lineNamed_16 : decode cX4_lineNamed 16 = .ok (.ifCond .ne 9, 3) := by decide +kernel
theorem dX4_lineNamed_19 : decode cX4_lineNamed 19 = .ok (.iinc 1 1, 3) := by decide +kernel
theorem dX4_lineNamed_22 : decode cX4_lineNamed 22 = .ok (.goto (-20), 3) := by decide +kernel
theorem dX4_lineNamed_25 : decode cX4_lineNamed 25 = .ok (.aload_n 0, 1) := by decide +kernel
theorem dX4_lineNamed_26 : decode cX4_lineNamed 26 = .ok (.iload_n 1, 1) := by decide +kernel
theorem dX4_lineNamed_27 : decode cX4_lineNamed 27 = .ok (.bipush 12, 2) := by decide +kernel
theorem dX4_lineNamed_29 : decode cX4_lineNamed 29 = .ok (.if_icmp .ge 7, 3) := by decide +kernel
theorem dX4_lineNamed_32 : decode cX4_lineNamed 32 = .ok (.iconst 1, 1) := by decide +kernel
theorem dX4_lineNamed_33 : decode cX4_lineNamed 33 = .ok (.goto 4, 3) := by decide +kernel
theorem dX4_lineNamed_36 : decode cX4_lineNamed 36 = .ok (.iconst 0, 1) := by decide +kernel
theorem dX4_lineNamed_37 : decode cX4_lineNamed 37 = .ok (.invokevirtual 74, 3) := by decide +kernel
theorem dX4_lineNamed_40 : decode cX4_lineNamed 40 = .ok (.iload_n 1, 1) := by decide +kernel
theorem dX4_lineNamed_41 : decode cX4_lineNamed 41 = .ok (.bipush 12, 2) := by decide +kernel
theorem dX4_lineNamed_43 : decode cX4_lineNamed 43 = .ok (.if_icmp .ge 7, 3) := by decide +kernel
theorem dX4_lineNamed_46 : decode cX4_lineNamed 46 = .ok (.iload_n 1, 1) := by decide +kernel
theorem dX4_lineNamed_47 : decode cX4_lineNamed 47 = .ok (.goto 4, 3) := by decide +kernel
theorem dX4_lineNamed_50 : decode cX4_lineNamed 50 = .ok (.iconst 0, 1) := by decide +kernel
theorem dX4_lineNamed_51 : decode cX4_lineNamed 51 = .ok (.ireturn, 1) := by decide +kernel
theorem dX4_nameOf_0 : decode cX4_nameOf 0 = .ok (.iload_n 0, 1) := by decide +kernel
theorem dX4_nameOf_1 : decode cX4_nameOf 1 = .ok (.tableswitch 99 0 11 #[63, 66, 69, 72, 75, 78, 81, 84, 87, 90, 93, 96], 63) := by decide +kernel
theorem dX4_nameOf_64 : decode cX4_nameOf 64 = .ok (.ldc 89, 2) := by decide +kernel
theorem dX4_nameOf_66 : decode cX4_nameOf 66 = .ok (.areturn, 1) := by decide +kernel
theorem dX4_nameOf_67 : decode cX4_nameOf 67 = .ok (.ldc 91, 2) := by decide +kernel
theorem dX4_nameOf_69 : decode cX4_nameOf 69 = .ok (.areturn, 1) := by decide +kernel
theorem dX4_nameOf_70 : decode cX4_nameOf 70 = .ok (.ldc 93, 2) := by decide +kernel
theorem dX4_nameOf_72 : decode cX4_nameOf 72 = .ok (.areturn, 1) := by decide +kernel
theorem dX4_nameOf_73 : decode cX4_nameOf 73 = .ok (.ldc 95, 2) := by decide +kernel
theorem dX4_nameOf_75 : decode cX4_nameOf 75 = .ok (.areturn, 1) := by decide +kernel
theorem dX4_nameOf_76 : decode cX4_nameOf 76 = .ok (.ldc 97, 2) := by decide +kernel
theorem dX4_nameOf_78 : decode cX4_nameOf 78 = .ok (.areturn, 1) := by decide +kernel
theorem dX4_nameOf_79 : decode cX4_nameOf 79 = .ok (.ldc 99, 2) := by decide +kernel
theorem dX4_nameOf_81 : decode cX4_nameOf 81 = .ok (.areturn, 1) := by decide +kernel
theorem dX4_nameOf_82 : decode cX4_nameOf 82 = .ok (.ldc 101, 2) := by decide +kernel
theorem dX4_nameOf_84 : decode cX4_nameOf 84 = .ok (.areturn, 1) := by decide +kernel
theorem dX4_nameOf_85 : decode cX4_nameOf 85 = .ok (.ldc 103, 2) := by decide +kernel
theorem dX4_nameOf_87 : decode cX4_nameOf 87 = .ok (.areturn, 1) := by decide +kernel
theorem dX4_nameOf_88 : decode cX4_nameOf 88 = .ok (.ldc 105, 2) := by decide +kernel
theorem dX4_nameOf_90 : decode cX4_nameOf 90 = .ok (.areturn, 1) := by decide +kernel
theorem dX4_nameOf_91 : decode cX4_nameOf 91 = .ok (.ldc 107, 2) := by decide +kernel
theorem dX4_nameOf_93 : decode cX4_nameOf 93 = .ok (.areturn, 1) := by decide +kernel
theorem dX4_nameOf_94 : decode cX4_nameOf 94 = .ok (.ldc 109, 2) := by decide +kernel
theorem dX4_nameOf_96 : decode cX4_nameOf 96 = .ok (.areturn, 1) := by decide +kernel
theorem dX4_nameOf_97 : decode cX4_nameOf 97 = .ok (.ldc 111, 2) := by decide +kernel
theorem dX4_nameOf_99 : decode cX4_nameOf 99 = .ok (.areturn, 1) := by decide +kernel
theorem dX4_nameOf_100 : decode cX4_nameOf 100 = .ok (.ldc 113, 2) := by decide +kernel
theorem dX4_nameOf_102 : decode cX4_nameOf 102 = .ok (.areturn, 1) := by decide +kernel
set_option maxRecDepth 20000 in
theorem ggX4_isNamed_J0_length_8abf5 : GoodIn wsX4_isNamed wsJ0_length_8abf5 := goodIn_r _ [9, 10, 11, 12, 13, 8, 14, 15, 16] rfl rfl
set_option maxRecDepth 20000 in
theorem gX4_isNamed_J0_length_8abf5 : GoodIn wsX4_isNamed (wsV RX4 115 RJ0 yJ0_length_8abf5 wsJ0_length_8abf5) := goodIn_app (goodIn_of _ (by decide +kernel)) ggX4_isNamed_J0_length_8abf5
set_option maxRecDepth 20000 in
theorem ggX4_isNamed_J0_charAt_5068e : GoodIn wsX4_isNamed wsJ0_charAt_5068e := goodIn_r _ [20, 10, 21, 22, 23, 8, 24, 15, 16, 25, 26, 27, 28, 29, 30, 31, 32, 33, 34, 35, 36, 37, 38, 39, 40, 41, 42, 43, 44, 45, 46, 47, 48, 49, 50, 51, 52, 53] rfl rfl
set_option maxRecDepth 20000 in
theorem gX4_isNamed_J0_charAt_5068e : GoodIn wsX4_isNamed (wsV RX4 119 RJ0 yJ0_charAt_5068e wsJ0_charAt_5068e) := goodIn_app (goodIn_of _ (by decide +kernel)) ggX4_isNamed_J0_charAt_5068e
theorem dX4_isNamed_0 : decode cX4_isNamed 0 = .ok (.aload_n 0, 1) := by decide +kernel
theorem dX4_isNamed_1 : decode cX4_isNamed 1 = .ok (.getfield 25, 3) := by decide +kernel
theorem dX4_isNamed_4 : decode cX4_isNamed 4 = .ok (.iconst 2, 1) := by decide +kernel
theorem dX4_isNamed_5 : decode cX4_isNamed 5 = .ok (.if_icmp .ne 19, 3) := by decide +kernel
theorem dX4_isNamed_8 : decode cX4_isNamed 8 = .ok (.aload_n 0, 1) := by decide +kernel
theorem dX4_isNamed_9 : decode cX4_isNamed 9 = .ok (.getfield 31, 3) := by decide +kernel
theorem dX4_isNamed_12 : decode cX4_isNamed 12 = .ok (.aload_n 0, 1) := by decide +kernel
theorem dX4_isNamed_13 : decode cX4_isNamed 13 = .ok (.getfield 28, 3) := by decide +kernel
theorem dX4_isNamed_16 : decode cX4_isNamed 16 = .ok (.isub, 1) := by decide +kernel
theorem dX4_isNamed_17 : decode cX4_isNamed 17 = .ok (.aload_n 1, 1) := by decide +kernel
theorem dX4_isNamed_18 : decode cX4_isNamed 18 = .ok (.invokevirtual 115, 3) := by decide +kernel
theorem dX4_isNamed_21 : decode cX4_isNamed 21 = .ok (.if_icmp .eq 5, 3) := by decide +kernel
theorem dX4_isNamed_24 : decode cX4_isNamed 24 = .ok (.iconst 0, 1) := by decide +kernel
theorem dX4_isNamed_25 : decode cX4_isNamed 25 = .ok (.ireturn, 1) := by decide +kernel
theorem dX4_isNamed_26 : decode cX4_isNamed 26 = .ok (.iconst 0, 1) := by decide +kernel
theorem dX4_isNamed_27 : decode cX4_isNamed 27 = .ok (.istore_n 2, 1) := by decide +kernel
theorem dX4_isNamed_28 : decode cX4_isNamed 28 = .ok (.iload_n 2, 1) := by decide +kernel
theorem dX4_isNamed_29 : decode cX4_isNamed 29 = .ok (.aload_n 1, 1) := by decide +kernel
theorem dX4_isNamed_30 : decode cX4_isNamed 30 = .ok (.invokevirtual 115, 3) := by decide +kernel
theorem dX4_isNamed_33 : decode cX4_isNamed 33 = .ok (.if_icmp .ge 30, 3) := by decide +kernel
theorem dX4_isNamed_36 : decode cX4_isNamed 36 = .ok (.aload_n 0, 1) := by decide +kernel
theorem dX4_isNamed_37 : decode cX4_isNamed 37 = .ok (.getfield 9, 3) := by decide +kernel
theorem dX4_isNamed_40 : decode cX4_isNamed 40 = .ok (.aload_n 0, 1) := by decide +kernel
theorem dX4_isNamed_41 : decode cX4_isNamed 41 = .ok (.getfield 28, 3) := by decide +kernel
theorem dX4_isNamed_44 : decode cX4_isNamed 44 = .ok (.iload_n 2, 1) := by decide +kernel
theorem dX4_isNamed_45 : decode cX4_isNamed 45 = .ok (.iadd, 1) := by decide +kernel
theorem dX4_isNamed_46 : decode cX4_isNamed 46 = .ok (.iaload, 1) := by decide +kernel
theorem dX4_isNamed_47 : decode cX4_isNamed 47 = .ok (.aload_n 1, 1) := by decide +kernel
theorem dX4_isNamed_48 : decode cX4_isNamed 48 = .ok (.iload_n 2, 1) := by decide +kernel
theorem dX4_isNamed_49 : decode cX4_isNamed 49 = .ok (.invokevirtual 119, 3) := by decide +kernel
theorem dX4_isNamed_52 : decode cX4_isNamed 52 = .ok (.if_icmp .eq 5, 3) := by decide +kernel
theorem dX4_isNamed_55 : decode cX4_isNamed 55 = .ok (.iconst 0, 1) := by decide +kernel
theorem dX4_isNamed_56 : decode cX4_isNamed 56 = .ok (.ireturn, 1) := by decide +kernel
theorem dX4_isNamed_57 : decode cX4_isNamed 57 = .ok (.iinc 2 1, 3) := by decide +kernel
theorem dX4_isNamed_60 : decode cX4_isNamed 60 = .ok (.goto (-32), 3) := by decide +kernel
theorem dX4_isNamed_63 : decode cX4_isNamed 63 = .ok (.iconst 1, 1) := by decide +kernel
theorem dX4_isNamed_64 : decode cX4_isNamed 64 = .ok (.ireturn, 1) := by decide +kernel
set_option maxRecDepth 20000 in
theorem ggX4_refuseTooMany_X4_tableOf : GoodIn wsX4_refuseTooMany wsX4_tableOf := goodIn_r _ [5, 20, 21, 22, 23, 24, 25] rfl rfl
set_option maxRecDepth 20000 in
theorem gX4_refuseTooMany_X4_tableOf : GoodIn wsX4_refuseTooMany (va_wsS RX4 132 yX4_tableOf wsX4_tableOf) := goodIn_app (goodIn_of _ (by decide +kernel)) ggX4_refuseTooMany_X4_tableOf
set_option maxRecDepth 20000 in
theorem ggX4_refuseTooMany_X3_isFull : GoodIn wsX4_refuseTooMany wsX3_isFull := goodIn_r _ [10, 11, 12, 13, 26, 27, 28] rfl rfl
set_option maxRecDepth 20000 in
theorem gX4_refuseTooMany_X3_isFull : GoodIn wsX4_refuseTooMany (wsV RX4 136 RX3 yX3_isFull wsX3_isFull) := goodIn_app (goodIn_of _ (by decide +kernel)) ggX4_refuseTooMany_X3_isFull
set_option maxRecDepth 20000 in
theorem ggX4_refuseTooMany_X4_refuse : GoodIn wsX4_refuseTooMany wsX4_refuse := goodIn_r _ [17, 18, 19, 29, 30, 31, 32, 33, 34, 35, 36, 37] rfl rfl
set_option maxRecDepth 20000 in
theorem gX4_refuseTooMany_X4_refuse : GoodIn wsX4_refuseTooMany (wsV RX4 56 RX4 yX4_refuse wsX4_refuse) := goodIn_app (goodIn_of _ (by decide +kernel)) ggX4_refuseTooMany_X4_refuse
theorem dX4_refuseTooMany_0 : decode cX4_refuseTooMany 0 = .ok (.iload_n 2, 1) := by decide +kernel
theorem dX4_refuseTooMany_1 : decode cX4_refuseTooMany 1 = .ok (.bipush 8, 2) := by decide +kernel
theorem dX4_refuseTooMany_3 : decode cX4_refuseTooMany 3 = .ok (.if_icmp .eq 29, 3) := by decide +kernel
theorem dX4_refuseTooMany_6 : decode cX4_refuseTooMany 6 = .ok (.iload_n 2, 1) := by decide +kernel
theorem dX4_refuseTooMany_7 : decode cX4_refuseTooMany 7 = .ok (.bipush 9, 2) := by decide +kernel
theorem dX4_refuseTooMany_9 : decode cX4_refuseTooMany 9 = .ok (.if_icmp .eq 23, 3) := by decide +kernel
theorem dX4_refuseTooMany_12 : decode cX4_refuseTooMany 12 = .ok (.iload_n 2, 1) := by decide +kernel
theorem dX4_refuseTooMany_13 : decode cX4_refuseTooMany 13 = .ok (.bipush 11, 2) := by decide +kernel
theorem dX4_refuseTooMany_15 : decode cX4_refuseTooMany 15 = .ok (.if_icmp .eq 17, 3) := by decide +kernel
theorem dX4_refuseTooMany_18 : decode cX4_refuseTooMany 18 = .ok (.aload_n 1, 1) := by decide +kernel
theorem dX4_refuseTooMany_19 : decode cX4_refuseTooMany 19 = .ok (.getfield 123, 3) := by decide +kernel
theorem dX4_refuseTooMany_22 : decode cX4_refuseTooMany 22 = .ok (.getfield 127, 3) := by decide +kernel
theorem dX4_refuseTooMany_25 : decode cX4_refuseTooMany 25 = .ok (.ifCond .ne 7, 3) := by decide +kernel
theorem dX4_refuseTooMany_28 : decode cX4_refuseTooMany 28 = .ok (.iconst 1, 1) := by decide +kernel
theorem dX4_refuseTooMany_29 : decode cX4_refuseTooMany 29 = .ok (.goto 4, 3) := by decide +kernel
theorem dX4_refuseTooMany_32 : decode cX4_refuseTooMany 32 = .ok (.iconst 0, 1) := by decide +kernel
theorem dX4_refuseTooMany_33 : decode cX4_refuseTooMany 33 = .ok (.istore_n 3, 1) := by decide +kernel
theorem dX4_refuseTooMany_34 : decode cX4_refuseTooMany 34 = .ok (.iload_n 3, 1) := by decide +kernel
theorem dX4_refuseTooMany_35 : decode cX4_refuseTooMany 35 = .ok (.ifCond .ne 14, 3) := by decide +kernel
theorem dX4_refuseTooMany_38 : decode cX4_refuseTooMany 38 = .ok (.aload_n 1, 1) := by decide +kernel
theorem dX4_refuseTooMany_39 : decode cX4_refuseTooMany 39 = .ok (.iload_n 2, 1) := by decide +kernel
theorem dX4_refuseTooMany_40 : decode cX4_refuseTooMany 40 = .ok (.invokestatic 132, 3) := by decide +kernel
theorem dX4_refuseTooMany_43 : decode cX4_refuseTooMany 43 = .ok (.invokevirtual 136, 3) := by decide +kernel
theorem dX4_refuseTooMany_46 : decode cX4_refuseTooMany 46 = .ok (.ifCond .eq 12, 3) := by decide +kernel
theorem dX4_refuseTooMany_49 : decode cX4_refuseTooMany 49 = .ok (.aload_n 0, 1) := by decide +kernel
theorem dX4_refuseTooMany_50 : decode cX4_refuseTooMany 50 = .ok (.iconst 5, 1) := by decide +kernel
theorem dX4_refuseTooMany_51 : decode cX4_refuseTooMany 51 = .ok (.aload_n 0, 1) := by decide +kernel
theorem dX4_refuseTooMany_52 : decode cX4_refuseTooMany 52 = .ok (.getfield 28, 3) := by decide +kernel
theorem dX4_refuseTooMany_55 : decode cX4_refuseTooMany 55 = .ok (.invokevirtual 56, 3) := by decide +kernel
theorem dX4_refuseTooMany_58 : decode cX4_refuseTooMany 58 = .ok (.return_, 1) := by decide +kernel
theorem dX4_tableOf_0 : decode cX4_tableOf 0 = .ok (.iload_n 1, 1) := by decide +kernel
theorem dX4_tableOf_1 : decode cX4_tableOf 1 = .ok (.tableswitch 46 8 11 #[31, 31, 36, 41], 31) := by decide +kernel
theorem dX4_tableOf_32 : decode cX4_tableOf 32 = .ok (.aload_n 0, 1) := by decide +kernel
theorem dX4_tableOf_33 : decode cX4_tableOf 33 = .ok (.getfield 123, 3) := by decide +kernel
theorem dX4_tableOf_36 : decode cX4_tableOf 36 = .ok (.areturn, 1) := by decide +kernel
theorem dX4_tableOf_37 : decode cX4_tableOf 37 = .ok (.aload_n 0, 1) := by decide +kernel
theorem dX4_tableOf_38 : decode cX4_tableOf 38 = .ok (.getfield 139, 3) := by decide +kernel
theorem dX4_tableOf_41 : decode cX4_tableOf 41 = .ok (.areturn, 1) := by decide +kernel
theorem dX4_tableOf_42 : decode cX4_tableOf 42 = .ok (.aload_n 0, 1) := by decide +kernel
theorem dX4_tableOf_43 : decode cX4_tableOf 43 = .ok (.getfield 142, 3) := by decide +kernel
theorem dX4_tableOf_46 : decode cX4_tableOf 46 = .ok (.areturn, 1) := by decide +kernel
theorem dX4_tableOf_47 : decode cX4_tableOf 47 = .ok (.aload_n 0, 1) := by decide +kernel
theorem dX4_tableOf_48 : decode cX4_tableOf 48 = .ok (.getfield 145, 3) := by decide +kernel
theorem dX4_tableOf_51 : decode cX4_tableOf 51 = .ok (.areturn, 1) := by decide +kernel
set_option maxRecDepth 20000 in
theorem ggX4_takeOperand_X4_registerNamed : GoodIn wsX4_takeOperand wsX4_registerNamed := goodIn_r _ [10, 3, 11, 1, 12, 26, 27, 28, 29, 30, 31, 32, 33, 34] rfl rfl
set_option maxRecDepth 20000 in
theorem gX4_takeOperand_X4_registerNamed : GoodIn wsX4_takeOperand (wsV RX4 148 RX4 yX4_registerNamed wsX4_registerNamed) := goodIn_app (goodIn_of _ (by decide +kernel)) ggX4_takeOperand_X4_registerNamed
set_option maxRecDepth 20000 in
theorem ggX4_takeOperand_X4_refuseUnless : GoodIn wsX4_takeOperand wsX4_refuseUnless := goodIn_r _ [16, 1, 17, 18, 19, 9, 20, 4, 21, 26, 27, 28, 29, 30, 31, 32, 33, 34] rfl rfl
set_option maxRecDepth 20000 in
theorem gX4_takeOperand_X4_refuseUnless : GoodIn wsX4_takeOperand (wsV RX4 74 RX4 yX4_refuseUnless wsX4_refuseUnless) := goodIn_app (goodIn_of _ (by decide +kernel)) ggX4_takeOperand_X4_refuseUnless
set_option maxRecDepth 20000 in
theorem ggX4_takeOperand_X4_refuse : GoodIn wsX4_takeOperand wsX4_refuse := goodIn_r _ [20, 4, 21, 26, 27, 28, 29, 30, 31, 32, 33, 34] rfl rfl
set_option maxRecDepth 20000 in
theorem gX4_takeOperand_X4_refuse : GoodIn wsX4_takeOperand (wsV RX4 56 RX4 yX4_refuse wsX4_refuse) := goodIn_app (goodIn_of _ (by decide +kernel)) ggX4_takeOperand_X4_refuse
set_option maxRecDepth 20000 in
theorem ggX4_takeOperand_X4_isWithin : GoodIn wsX4_takeOperand wsX4_isWithin := goodIn_r _ [25, 2, 26, 27, 28, 29, 30, 31, 32, 33, 34] rfl rfl
set_option maxRecDepth 20000 in
theorem gX4_takeOperand_X4_isWithin : GoodIn wsX4_takeOperand (wsV RX4 151 RX4 yX4_isWithin wsX4_isWithin) := goodIn_app (goodIn_of _ (by decide +kernel)) ggX4_takeOperand_X4_isWithin
theorem dX4_takeOperand_0 : decode cX4_takeOperand 0 = .ok (.iload_n 2, 1) := by decide +kernel
theorem dX4_takeOperand_1 : decode cX4_takeOperand 1 = .ok (.iconst 5, 1) := by decide +kernel
theorem dX4_takeOperand_2 : decode cX4_takeOperand 2 = .ok (.if_icmp .eq 15, 3) := by decide +kernel
theorem dX4_takeOperand_5 : decode cX4_takeOperand 5 = .ok (.iload_n 2, 1) := by decide +kernel
theorem dX4_takeOperand_6 : decode cX4_takeOperand 6 = .ok (.bipush 6, 2) := by decide +kernel
theorem dX4_takeOperand_8 : decode cX4_takeOperand 8 = .ok (.if_icmp .eq 9, 3) := by decide +kernel
theorem dX4_takeOperand_11 : decode cX4_takeOperand 11 = .ok (.iload_n 2, 1) := by decide +kernel
theorem dX4_takeOperand_12 : decode cX4_takeOperand 12 = .ok (.bipush 7, 2) := by decide +kernel
theorem dX4_takeOperand_14 : decode cX4_takeOperand 14 = .ok (.if_icmp .ne 7, 3) := by decide +kernel
theorem dX4_takeOperand_17 : decode cX4_takeOperand 17 = .ok (.iconst 1, 1) := by decide +kernel
theorem dX4_takeOperand_18 : decode cX4_takeOperand 18 = .ok (.goto 4, 3) := by decide +kernel
theorem dX4_takeOperand_21 : decode cX4_takeOperand 21 = .ok (.iconst 0, 1) := by decide +kernel
theorem dX4_takeOperand_22 : decode cX4_takeOperand 22 = .ok (.istore_n 3, 1) := by decide +kernel
theorem dX4_takeOperand_23 : decode cX4_takeOperand 23 = .ok (.iload_n 3, 1) := by decide +kernel
theorem dX4_takeOperand_24 : decode cX4_takeOperand 24 = .ok (.ifCond .eq 67, 3) := by decide +kernel
theorem dX4_takeOperand_27 : decode cX4_takeOperand 27 = .ok (.aload_n 0, 1) := by decide +kernel
theorem dX4_takeOperand_28 : decode cX4_takeOperand 28 = .ok (.invokevirtual 148, 3) := by decide +kernel
theorem dX4_takeOperand_31 : decode cX4_takeOperand 31 = .ok (.istore 4, 2) := by decide +kernel
theorem dX4_takeOperand_33 : decode cX4_takeOperand 33 = .ok (.aload_n 0, 1) := by decide +kernel
theorem dX4_takeOperand_34 : decode cX4_takeOperand 34 = .ok (.iload 4, 2) := by decide +kernel
theorem dX4_takeOperand_36 : decode cX4_takeOperand 36 = .ok (.bipush (-4), 2) := by decide +kernel
theorem dX4_takeOperand_38 : decode cX4_takeOperand 38 = .ok (.if_icmp .eq 7, 3) := by decide +kernel
theorem dX4_takeOperand_41 : decode cX4_takeOperand 41 = .ok (.iconst 1, 1) := by decide +kernel
theorem dX4_takeOperand_42 : decode cX4_takeOperand 42 = .ok (.goto 4, 3) := by decide +kernel
theorem dX4_takeOperand_45 : decode cX4_takeOperand 45 = .ok (.iconst 0, 1) := by decide +kernel
theorem dX4_takeOperand_46 : decode cX4_takeOperand 46 = .ok (.invokevirtual 74, 3) := by decide +kernel
theorem dX4_takeOperand_49 : decode cX4_takeOperand 49 = .ok (.iload_n 2, 1) := by decide +kernel
theorem dX4_takeOperand_50 : decode cX4_takeOperand 50 = .ok (.bipush 6, 2) := by decide +kernel
theorem dX4_takeOperand_52 : decode cX4_takeOperand 52 = .ok (.if_icmp .ne 9, 3) := by decide +kernel
theorem dX4_takeOperand_55 : decode cX4_takeOperand 55 = .ok (.iload 4, 2) := by decide +kernel
theorem dX4_takeOperand_57 : decode cX4_takeOperand 57 = .ok (.iconst 5, 1) := by decide +kernel
theorem dX4_takeOperand_58 : decode cX4_takeOperand 58 = .ok (.if_icmp .eq 15, 3) := by decide +kernel
theorem dX4_takeOperand_61 : decode cX4_takeOperand 61 = .ok (.iload_n 2, 1) := by decide +kernel
theorem dX4_takeOperand_62 : decode cX4_takeOperand 62 = .ok (.bipush 7, 2) := by decide +kernel
theorem dX4_takeOperand_64 : decode cX4_takeOperand 64 = .ok (.if_icmp .ne 18, 3) := by decide +kernel
theorem dX4_takeOperand_67 : decode cX4_takeOperand 67 = .ok (.iload 4, 2) := by decide +kernel
theorem dX4_takeOperand_69 : decode cX4_takeOperand 69 = .ok (.iconst 4, 1) := by decide +kernel
theorem dX4_takeOperand_70 : decode cX4_takeOperand 70 = .ok (.if_icmp .ne 12, 3) := by decide +kernel
theorem dX4_takeOperand_73 : decode cX4_takeOperand 73 = .ok (.aload_n 0, 1) := by decide +kernel
theorem dX4_takeOperand_74 : decode cX4_takeOperand 74 = .ok (.iconst 4, 1) := by decide +kernel
theorem dX4_takeOperand_75 : decode cX4_takeOperand 75 = .ok (.aload_n 0, 1) := by decide +kernel
theorem dX4_takeOperand_76 : decode cX4_takeOperand 76 = .ok (.getfield 28, 3) := by decide +kernel
theorem dX4_takeOperand_79 : decode cX4_takeOperand 79 = .ok (.invokevirtual 56, 3) := by decide +kernel
theorem dX4_takeOperand_82 : decode cX4_takeOperand 82 = .ok (.aload_n 0, 1) := by decide +kernel
theorem dX4_takeOperand_83 : decode cX4_takeOperand 83 = .ok (.getfield 37, 3) := by decide +kernel
theorem dX4_takeOperand_86 : decode cX4_takeOperand 86 = .ok (.iload_n 1, 1) := by decide +kernel
theorem dX4_takeOperand_87 : decode cX4_takeOperand 87 = .ok (.iload 4, 2) := by decide +kernel
theorem dX4_takeOperand_89 : decode cX4_takeOperand 89 = .ok (.iastore, 1) := by decide +kernel
theorem dX4_takeOperand_90 : decode cX4_takeOperand 90 = .ok (.return_, 1) := by decide +kernel
theorem dX4_takeOperand_91 : decode cX4_takeOperand 91 = .ok (.aload_n 0, 1) := by decide +kernel
theorem dX4_takeOperand_92 : decode cX4_takeOperand 92 = .ok (.aload_n 0, 1) := by decide +kernel
theorem dX4_takeOperand_93 : decode cX4_takeOperand 93 = .ok (.getfield 25, 3) := by decide +kernel
theorem dX4_takeOperand_96 : decode cX4_takeOperand 96 = .ok (.iconst 3, 1) := by decide +kernel
theorem dX4_takeOperand_97 : decode cX4_takeOperand 97 = .ok (.if_icmp .ne 7, 3) := by decide +kernel
theorem dX4_takeOperand_100 : decode cX4_takeOperand 100 = .ok (.iconst 1, 1) := by decide +kernel
theorem dX4_takeOperand_101 : decode cX4_takeOperand 101 = .ok (.goto 4, 3) := by decide +kernel
theorem dX4_takeOperand_104 : decode cX4_takeOperand 104 = .ok (.iconst 0, 1) := by decide +kernel
theorem dX4_takeOperand_105 : decode cX4_takeOperand 105 = .ok (.invokevirtual 74, 3) := by decide +kernel
theorem dX4_takeOperand_108 : decode cX4_takeOperand 108 = .ok (.aload_n 0, 1) := by decide +kernel
theorem dX4_takeOperand_109 : decode cX4_takeOperand 109 = .ok (.getfield 19, 3) := by decide +kernel
theorem dX4_takeOperand_112 : decode cX4_takeOperand 112 = .ok (.ifCond .ne 25, 3) := by decide +kernel
theorem dX4_takeOperand_115 : decode cX4_takeOperand 115 = .ok (.aload_n 0, 1) := by decide +kernel
theorem dX4_takeOperand_116 : decode cX4_takeOperand 116 = .ok (.aload_n 0, 1) := by decide +kernel
theorem dX4_takeOperand_117 : decode cX4_takeOperand 117 = .ok (.getfield 34, 3) := by decide +kernel
theorem dX4_takeOperand_120 : decode cX4_takeOperand 120 = .ok (.iload_n 1, 1) := by decide +kernel
theorem dX4_takeOperand_121 : decode cX4_takeOperand 121 = .ok (.iload_n 2, 1) := by decide +kernel
theorem dX4_takeOperand_122 : decode cX4_takeOperand 122 = .ok (.invokevirtual 151, 3) := by decide +kernel
theorem dX4_takeOperand_125 : decode cX4_takeOperand 125 = .ok (.ifCond .ne 12, 3) := by decide +kernel
theorem dX4_takeOperand_128 : decode cX4_takeOperand 128 = .ok (.aload_n 0, 1) := by decide +kernel
theorem dX4_takeOperand_129 : decode cX4_takeOperand 129 = .ok (.iconst 3, 1) := by decide +kernel
theorem dX4_takeOperand_130 : decode cX4_takeOperand 130 = .ok (.aload_n 0, 1) := by decide +kernel
theorem dX4_takeOperand_131 : decode cX4_takeOperand 131 = .ok (.getfield 28, 3) := by decide +kernel
theorem dX4_takeOperand_134 : decode cX4_takeOperand 134 = .ok (.invokevirtual 56, 3) := by decide +kernel
theorem dX4_takeOperand_137 : decode cX4_takeOperand 137 = .ok (.aload_n 0, 1) := by decide +kernel
theorem dX4_takeOperand_138 : decode cX4_takeOperand 138 = .ok (.getfield 37, 3) := by decide +kernel
theorem dX4_takeOperand_141 : decode cX4_takeOperand 141 = .ok (.iload_n 1, 1) := by decide +kernel
theorem dX4_takeOperand_142 : decode cX4_takeOperand 142 = .ok (.aload_n 0, 1) := by decide +kernel
theorem dX4_takeOperand_143 : decode cX4_takeOperand 143 = .ok (.getfield 34, 3) := by decide +kernel
theorem dX4_takeOperand_146 : decode cX4_takeOperand 146 = .ok (.iastore, 1) := by decide +kernel
theorem dX4_takeOperand_147 : decode cX4_takeOperand 147 = .ok (.return_, 1) := by decide +kernel
theorem dX4_isWithin_0 : decode cX4_isWithin 0 = .ok (.iload_n 3, 1) := by decide +kernel
theorem dX4_isWithin_1 : decode cX4_isWithin 1 = .ok (.tableswitch 80 2 4 #[27, 56, 68], 27) := by decide +kernel
theorem dX4_isWithin_28 : decode cX4_isWithin 28 = .ok (.iload_n 2, 1) := by decide +kernel
theorem dX4_isWithin_29 : decode cX4_isWithin 29 = .ok (.ifCond .le 26, 3) := by decide +kernel
theorem dX4_isWithin_32 : decode cX4_isWithin 32 = .ok (.iload_n 1, 1) := by decide +kernel
theorem dX4_isWithin_33 : decode cX4_isWithin 33 = .ok (.aload_n 0, 1) := by decide +kernel
theorem dX4_isWithin_34 : decode cX4_isWithin 34 = .ok (.getfield 37, 3) := by decide +kernel
theorem dX4_isWithin_37 : decode cX4_isWithin 37 = .ok (.iload_n 2, 1) := by decide +kernel
theorem dX4_isWithin_38 : decode cX4_isWithin 38 = .ok (.iconst 1, 1) := by decide +kernel
theorem dX4_isWithin_39 : decode cX4_isWithin 39 = .ok (.isub, 1) := by decide +kernel
theorem dX4_isWithin_40 : decode cX4_isWithin 40 = .ok (.iaload, 1) := by decide +kernel
theorem dX4_isWithin_41 : decode cX4_isWithin 41 = .ok (.if_icmp .lt 14, 3) := by decide +kernel
theorem dX4_isWithin_44 : decode cX4_isWithin 44 = .ok (.iload_n 1, 1) := by decide +kernel
theorem dX4_isWithin_45 : decode cX4_isWithin 45 = .ok (.sipush 999, 3) := by decide +kernel
theorem dX4_isWithin_48 : decode cX4_isWithin 48 = .ok (.if_icmp .gt 7, 3) := by decide +kernel
theorem dX4_isWithin_51 : decode cX4_isWithin 51 = .ok (.iconst 1, 1) := by decide +kernel
theorem dX4_isWithin_52 : decode cX4_isWithin 52 = .ok (.goto 4, 3) := by decide +kernel
theorem dX4_isWithin_55 : decode cX4_isWithin 55 = .ok (.iconst 0, 1) := by decide +kernel
theorem dX4_isWithin_56 : decode cX4_isWithin 56 = .ok (.ireturn, 1) := by decide +kernel
theorem dX4_isWithin_57 : decode cX4_isWithin 57 = .ok (.iload_n 1, 1) := by decide +kernel
theorem dX4_isWithin_58 : decode cX4_isWithin 58 = .ok (.bipush 99, 2) := by decide +kernel
theorem dX4_isWithin_60 : decode cX4_isWithin 60 = .ok (.if_icmp .gt 7, 3) := by decide +kernel
theorem dX4_isWithin_63 : decode cX4_isWithin 63 = .ok (.iconst 1, 1) := by decide +kernel
theorem dX4_isWithin_64 : decode cX4_isWithin 64 = .ok (.goto 4, 3) := by decide +kernel
theorem dX4_isWithin_67 : decode cX4_isWithin 67 = .ok (.iconst 0, 1) := by decide +kernel
theorem dX4_isWithin_68 : decode cX4_isWithin 68 = .ok (.ireturn, 1) := by decide +kernel
theorem dX4_isWithin_69 : decode cX4_isWithin 69 = .ok (.iload_n 1, 1) := by decide +kernel
theorem dX4_isWithin_70 : decode cX4_isWithin 70 = .ok (.bipush 10, 2) := by decide +kernel
theorem dX4_isWithin_72 : decode cX4_isWithin 72 = .ok (.if_icmp .gt 7, 3) := by decide +kernel
theorem dX4_isWithin_75 : decode cX4_isWithin 75 = .ok (.iconst 1, 1) := by decide +kernel
theorem dX4_isWithin_76 : decode cX4_isWithin 76 = .ok (.goto 4, 3) := by decide +kernel
theorem dX4_isWithin_79 : decode cX4_isWithin 79 = .ok (.iconst 0, 1) := by decide +kernel
theorem dX4_isWithin_80 : decode cX4_isWithin 80 = .ok (.ireturn, 1) := by decide +kernel
theorem dX4_isWithin_81 : decode cX4_isWithin 81 = .ok (.iload_n 1, 1) := by decide +kernel
theorem dX4_isWithin_82 : decode cX4_isWithin 82 = .ok (.sipush 999, 3) := by decide +kernel
theorem dX4_isWithin_85 : decode cX4_isWithin 85 = .ok (.if_icmp .gt 7, 3) := by decide +kernel
theorem dX4_isWithin_88 : decode cX4_isWithin 88 = .ok (.iconst 1, 1) := by decide +kernel
theorem dX4_isWithin_89 : decode cX4_isWithin 89 = .ok (.goto 4, 3) := by decide +kernel
theorem dX4_isWithin_92 : decode cX4_isWithin 92 = .ok (.iconst 0, 1) := by decide +kernel
theorem dX4_isWithin_93 : decode cX4_isWithin 93 = .ok (.ireturn, 1) := by decide +kernel
theorem dX4_registerNamed_0 : decode cX4_registerNamed 0 = .ok (.aload_n 0, 1) := by decide +kernel
theorem dX4_registerNamed_1 : decode cX4_registerNamed 1 = .ok (.getfield 25, 3) := by decide +kernel
theorem dX4_registerNamed_4 : decode cX4_registerNamed 4 = .ok (.iconst 2, 1) := by decide +kernel
theorem dX4_registerNamed_5 : decode cX4_registerNamed 5 = .ok (.if_icmp .ne 16, 3) := by decide +kernel
theorem dX4_registerNamed_8 : decode cX4_registerNamed 8 = .ok (.aload_n 0, 1) := by decide +kernel
theorem dX4_registerNamed_9 : decode cX4_registerNamed 9 = .ok (.getfield 31, 3) := by decide +kernel
theorem dX4_registerNamed_12 : decode cX4_registerNamed 12 = .ok (.aload_n 0, 1) := by decide +kernel
theorem dX4_registerNamed_13 : decode cX4_registerNamed 13 = .ok (.getfield 28, 3) := by decide +kernel
theorem dX4_registerNamed_16 : decode cX4_registerNamed 16 = .ok (.isub, 1) := by decide +kernel
theorem dX4_registerNamed_17 : decode cX4_registerNamed 17 = .ok (.iconst 1, 1) := by decide +kernel
theorem dX4_registerNamed_18 : decode cX4_registerNamed 18 = .ok (.if_icmp .eq 6, 3) := by decide +kernel
theorem dX4_registerNamed_21 : decode cX4_registerNamed 21 = .ok (.bipush (-4), 2) := by decide +kernel
theorem dX4_registerNamed_23 : decode cX4_registerNamed 23 = .ok (.ireturn, 1) := by decide +kernel
theorem dX4_registerNamed_24 : decode cX4_registerNamed 24 = .ok (.aload_n 0, 1) := by decide +kernel
theorem dX4_registerNamed_25 : decode cX4_registerNamed 25 = .ok (.getfield 9, 3) := by decide +kernel
theorem dX4_registerNamed_28 : decode cX4_registerNamed 28 = .ok (.aload_n 0, 1) := by decide +kernel
theorem dX4_registerNamed_29 : decode cX4_registerNamed 29 = .ok (.getfield 28, 3) := by decide +kernel
theorem dX4_registerNamed_32 : decode cX4_registerNamed 32 = .ok (.iaload, 1) := by decide +kernel
theorem dX4_registerNamed_33 : decode cX4_registerNamed 33 = .ok (.istore_n 1, 1) := by decide +kernel
theorem dX4_registerNamed_34 : decode cX4_registerNamed 34 = .ok (.iload_n 1, 1) := by decide +kernel
theorem dX4_registerNamed_35 : decode cX4_registerNamed 35 = .ok (.bipush 97, 2) := by decide +kernel
theorem dX4_registerNamed_37 : decode cX4_registerNamed 37 = .ok (.if_icmp .lt 14, 3) := by decide +kernel
theorem dX4_registerNamed_40 : decode cX4_registerNamed 40 = .ok (.iload_n 1, 1) := by decide +kernel
theorem dX4_registerNamed_41 : decode cX4_registerNamed 41 = .ok (.bipush 100, 2) := by decide +kernel
theorem dX4_registerNamed_43 : decode cX4_registerNamed 43 = .ok (.if_icmp .gt 8, 3) := by decide +kernel
theorem dX4_registerNamed_46 : decode cX4_registerNamed 46 = .ok (.iload_n 1, 1) := by decide +kernel
theorem dX4_registerNamed_47 : decode cX4_registerNamed 47 = .ok (.bipush 97, 2) := by decide +kernel
theorem dX4_registerNamed_49 : decode cX4_registerNamed 49 = .ok (.isub, 1) := by decide +kernel
theorem dX4_registerNamed_50 : decode cX4_registerNamed 50 = .ok (.ireturn, 1) := by decide +kernel
theorem dX4_registerNamed_51 : decode cX4_registerNamed 51 = .ok (.iload_n 1, 1) := by decide +kernel
theorem dX4_registerNamed_52 : decode cX4_registerNamed 52 = .ok (.bipush 115, 2) := by decide +kernel
theorem dX4_registerNamed_54 : decode cX4_registerNamed 54 = .ok (.if_icmp .ne 5, 3) := by decide +kernel
theorem dX4_registerNamed_57 : decode cX4_registerNamed 57 = .ok (.iconst 4, 1) := by decide +kernel
theorem dX4_registerNamed_58 : decode cX4_registerNamed 58 = .ok (.ireturn, 1) := by decide +kernel
theorem dX4_registerNamed_59 : decode cX4_registerNamed 59 = .ok (.iload_n 1, 1) := by decide +kernel
theorem dX4_registerNamed_60 : decode cX4_registerNamed 60 = .ok (.bipush 112, 2) := by decide +kernel
theorem dX4_registerNamed_62 : decode cX4_registerNamed 62 = .ok (.if_icmp .ne 7, 3) := by decide +kernel
theorem dX4_registerNamed_65 : decode cX4_registerNamed 65 = .ok (.iconst 5, 1) := by decide +kernel
theorem dX4_registerNamed_66 : decode cX4_registerNamed 66 = .ok (.goto 5, 3) := by decide +kernel
theorem dX4_registerNamed_69 : decode cX4_registerNamed 69 = .ok (.bipush (-4), 2) := by decide +kernel
theorem dX4_registerNamed_71 : decode cX4_registerNamed 71 = .ok (.ireturn, 1) := by decide +kernel
set_option maxRecDepth 20000 in
theorem ggX4_addLine_X4_tableOf : GoodIn wsX4_addLine wsX4_tableOf := goodIn_r _ [5, 25, 26, 27, 28, 29, 30] rfl rfl
set_option maxRecDepth 20000 in
theorem gX4_addLine_X4_tableOf : GoodIn wsX4_addLine (va_wsS RX4 132 yX4_tableOf wsX4_tableOf) := goodIn_app (goodIn_of _ (by decide +kernel)) ggX4_addLine_X4_tableOf
set_option maxRecDepth 20000 in
theorem ggX4_addLine_X3_addOne : GoodIn wsX4_addLine wsX3_addOne := goodIn_r _ [10, 11, 12, 13, 14, 9, 15, 16, 17, 22, 23, 24] rfl rfl
set_option maxRecDepth 20000 in
theorem gX4_addLine_X3_addOne : GoodIn wsX4_addLine (wsV RX4 155 RX3 yX3_addOne wsX3_addOne) := goodIn_app (goodIn_of _ (by decide +kernel)) ggX4_addLine_X3_addOne
set_option maxRecDepth 20000 in
theorem ggX4_addLine_X3_set : GoodIn wsX4_addLine wsX3_set := goodIn_r _ [21, 11, 16, 17, 22, 23, 24] rfl rfl
set_option maxRecDepth 20000 in
theorem gX4_addLine_X3_set : GoodIn wsX4_addLine (wsV RX4 158 RX3 yX3_set wsX3_set) := goodIn_app (goodIn_of _ (by decide +kernel)) ggX4_addLine_X3_set
theorem dX4_addLine_0 : decode cX4_addLine 0 = .ok (.aload_n 1, 1) := by decide +kernel
theorem dX4_addLine_1 : decode cX4_addLine 1 = .ok (.iload_n 2, 1) := by decide +kernel
theorem dX4_addLine_2 : decode cX4_addLine 2 = .ok (.invokestatic 132, 3) := by decide +kernel
theorem dX4_addLine_5 : decode cX4_addLine 5 = .ok (.astore_n 3, 1) := by decide +kernel
theorem dX4_addLine_6 : decode cX4_addLine 6 = .ok (.aload_n 3, 1) := by decide +kernel
theorem dX4_addLine_7 : decode cX4_addLine 7 = .ok (.getfield 127, 3) := by decide +kernel
theorem dX4_addLine_10 : decode cX4_addLine 10 = .ok (.istore 4, 2) := by decide +kernel
theorem dX4_addLine_12 : decode cX4_addLine 12 = .ok (.aload_n 3, 1) := by decide +kernel
theorem dX4_addLine_13 : decode cX4_addLine 13 = .ok (.invokevirtual 155, 3) := by decide +kernel
theorem dX4_addLine_16 : decode cX4_addLine 16 = .ok (.aload_n 1, 1) := by decide +kernel
theorem dX4_addLine_17 : decode cX4_addLine 17 = .ok (.getfield 123, 3) := by decide +kernel
theorem dX4_addLine_20 : decode cX4_addLine 20 = .ok (.getfield 127, 3) := by decide +kernel
theorem dX4_addLine_23 : decode cX4_addLine 23 = .ok (.iconst 1, 1) := by decide +kernel
theorem dX4_addLine_24 : decode cX4_addLine 24 = .ok (.isub, 1) := by decide +kernel
theorem dX4_addLine_25 : decode cX4_addLine 25 = .ok (.istore 5, 2) := by decide +kernel
theorem dX4_addLine_27 : decode cX4_addLine 27 = .ok (.iload_n 2, 1) := by decide +kernel
theorem dX4_addLine_28 : decode cX4_addLine 28 = .ok (.bipush 8, 2) := by decide +kernel
theorem dX4_addLine_30 : decode cX4_addLine 30 = .ok (.if_icmp .eq 9, 3) := by decide +kernel
theorem dX4_addLine_33 : decode cX4_addLine 33 = .ok (.iload_n 2, 1) := by decide +kernel
theorem dX4_addLine_34 : decode cX4_addLine 34 = .ok (.bipush 9, 2) := by decide +kernel
theorem dX4_addLine_36 : decode cX4_addLine 36 = .ok (.if_icmp .ne 50, 3) := by decide +kernel
theorem dX4_addLine_39 : decode cX4_addLine 39 = .ok (.aload_n 3, 1) := by decide +kernel
theorem dX4_addLine_40 : decode cX4_addLine 40 = .ok (.iload 4, 2) := by decide +kernel
theorem dX4_addLine_42 : decode cX4_addLine 42 = .ok (.iconst 0, 1) := by decide +kernel
theorem dX4_addLine_43 : decode cX4_addLine 43 = .ok (.aload_n 0, 1) := by decide +kernel
theorem dX4_addLine_44 : decode cX4_addLine 44 = .ok (.getfield 37, 3) := by decide +kernel
theorem dX4_addLine_47 : decode cX4_addLine 47 = .ok (.iconst 0, 1) := by decide +kernel
theorem dX4_addLine_48 : decode cX4_addLine 48 = .ok (.iaload, 1) := by decide +kernel
theorem dX4_addLine_49 : decode cX4_addLine 49 = .ok (.invokevirtual 158, 3) := by decide +kernel
theorem dX4_addLine_52 : decode cX4_addLine 52 = .ok (.aload_n 3, 1) := by decide +kernel
theorem dX4_addLine_53 : decode cX4_addLine 53 = .ok (.iload 4, 2) := by decide +kernel
theorem dX4_addLine_55 : decode cX4_addLine 55 = .ok (.iconst 1, 1) := by decide +kernel
theorem dX4_addLine_56 : decode cX4_addLine 56 = .ok (.aload_n 0, 1) := by decide +kernel
theorem dX4_addLine_57 : decode cX4_addLine 57 = .ok (.getfield 37, 3) := by decide +kernel
theorem dX4_addLine_60 : decode cX4_addLine 60 = .ok (.iconst 1, 1) := by decide +kernel
theorem dX4_addLine_61 : decode cX4_addLine 61 = .ok (.iaload, 1) := by decide +kernel
theorem dX4_addLine_62 : decode cX4_addLine 62 = .ok (.invokevirtual 158, 3) := by decide +kernel
theorem dX4_addLine_65 : decode cX4_addLine 65 = .ok (.aload_n 3, 1) := by decide +kernel
theorem dX4_addLine_66 : decode cX4_addLine 66 = .ok (.iload 4, 2) := by decide +kernel
theorem dX4_addLine_68 : decode cX4_addLine 68 = .ok (.iconst 2, 1) := by decide +kernel
theorem dX4_addLine_69 : decode cX4_addLine 69 = .ok (.iload_n 2, 1) := by decide +kernel
theorem dX4_addLine_70 : decode cX4_addLine 70 = .ok (.bipush 9, 2) := by decide +kernel
theorem dX4_addLine_72 : decode cX4_addLine 72 = .ok (.if_icmp .ne 7, 3) := by decide +kernel
theorem dX4_addLine_75 : decode cX4_addLine 75 = .ok (.iconst 1, 1) := by decide +kernel
theorem dX4_addLine_76 : decode cX4_addLine 76 = .ok (.goto 4, 3) := by decide +kernel
theorem dX4_addLine_79 : decode cX4_addLine 79 = .ok (.iconst 0, 1) := by decide +kernel
theorem dX4_addLine_80 : decode cX4_addLine 80 = .ok (.invokevirtual 158, 3) := by decide +kernel
theorem dX4_addLine_83 : decode cX4_addLine 83 = .ok (.goto 209, 3) := by decide +kernel
theorem dX4_addLine_86 : decode cX4_addLine 86 = .ok (.iload_n 2, 1) := by decide +kernel
theorem dX4_addLine_87 : decode cX4_addLine 87 = .ok (.bipush 11, 2) := by decide +kernel
theorem dX4_addLine_89 : decode cX4_addLine 89 = .ok (.if_icmp .ne 32, 3) := by decide +kernel
theorem dX4_addLine_92 : decode cX4_addLine 92 = .ok (.aload_n 3, 1) := by decide +kernel
theorem dX4_addLine_93 : decode cX4_addLine 93 = .ok (.iload 4, 2) := by decide +kernel
theorem dX4_addLine_95 : decode cX4_addLine 95 = .ok (.iconst 0, 1) := by decide +kernel
theorem dX4_addLine_96 : decode cX4_addLine 96 = .ok (.aload_n 0, 1) := by decide +kernel
theorem dX4_addLine_97 : decode cX4_addLine 97 = .ok (.getfield 37, 3) := by decide +kernel
theorem dX4_addLine_100 : decode cX4_addLine 100 = .ok (.iconst 0, 1) := by decide +kernel
theorem dX4_addLine_101 : decode cX4_addLine 101 = .ok (.iaload, 1) := by decide +kernel
theorem dX4_addLine_102 : decode cX4_addLine 102 = .ok (.invokevirtual 158, 3) := by decide +kernel
theorem dX4_addLine_105 : decode cX4_addLine 105 = .ok (.aload_n 3, 1) := by decide +kernel
theorem dX4_addLine_106 : decode cX4_addLine 106 = .ok (.iload 4, 2) := by decide +kernel
theorem dX4_addLine_108 : decode cX4_addLine 108 = .ok (.iconst 1, 1) := by decide +kernel
theorem dX4_addLine_109 : decode cX4_addLine 109 = .ok (.aload_n 0, 1) := by decide +kernel
theorem dX4_addLine_110 : decode cX4_addLine 110 = .ok (.getfield 37, 3) := by decide +kernel
theorem dX4_addLine_113 : decode cX4_addLine 113 = .ok (.iconst 1, 1) := by decide +kernel
theorem dX4_addLine_114 : decode cX4_addLine 114 = .ok (.iaload, 1) := by decide +kernel
theorem dX4_addLine_115 : decode cX4_addLine 115 = .ok (.invokevirtual 158, 3) := by decide +kernel
theorem dX4_addLine_118 : decode cX4_addLine 118 = .ok (.goto 174, 3) := by decide +kernel
theorem dX4_addLine_121 : decode cX4_addLine 121 = .ok (.iload_n 2, 1) := by decide +kernel
theorem dX4_addLine_122 : decode cX4_addLine 122 = .ok (.bipush 10, 2) := by decide +kernel
theorem dX4_addLine_124 : decode cX4_addLine 124 = .ok (.if_icmp .ne 45, 3) := by decide +kernel
theorem dX4_addLine_127 : decode cX4_addLine 127 = .ok (.iconst 0, 1) := by decide +kernel
theorem dX4_addLine_128 : decode cX4_addLine 128 = .ok (.istore 6, 2) := by decide +kernel
theorem dX4_addLine_130 : decode cX4_addLine 130 = .ok (.iload 6, 2) := by decide +kernel
theorem dX4_addLine_132 : decode cX4_addLine 132 = .ok (.iconst 4, 1) := by decide +kernel
theorem dX4_addLine_133 : decode cX4_addLine 133 = .ok (.if_icmp .ge 24, 3) := by decide +kernel
theorem dX4_addLine_136 : decode cX4_addLine 136 = .ok (.aload_n 3, 1) := by decide +kernel
theorem dX4_addLine_137 : decode cX4_addLine 137 = .ok (.iload 4, 2) := by decide +kernel
theorem dX4_addLine_139 : decode cX4_addLine 139 = .ok (.iload 6, 2) := by decide +kernel
theorem dX4_addLine_141 : decode cX4_addLine 141 = .ok (.aload_n 0, 1) := by decide +kernel
theorem dX4_addLine_142 : decode cX4_addLine 142 = .ok (.getfield 37, 3) := by decide +kernel
theorem dX4_addLine_145 : decode cX4_addLine 145 = .ok (.iload 6, 2) := by decide +kernel
theorem dX4_addLine_147 : decode cX4_addLine 147 = .ok (.iaload, 1) := by decide +kernel
theorem dX4_addLine_148 : decode cX4_addLine 148 = .ok (.invokevirtual 158, 3) := by decide +kernel
theorem dX4_addLine_151 : decode cX4_addLine 151 = .ok (.iinc 6 1, 3) := by decide +kernel
theorem dX4_addLine_154 : decode cX4_addLine 154 = .ok (.goto (-24), 3) := by decide +kernel
theorem dX4_addLine_157 : decode cX4_addLine 157 = .ok (.aload_n 3, 1) := by decide +kernel
theorem dX4_addLine_158 : decode cX4_addLine 158 = .ok (.iload 4, 2) := by decide +kernel
theorem dX4_addLine_160 : decode cX4_addLine 160 = .ok (.iconst 4, 1) := by decide +kernel
theorem dX4_addLine_161 : decode cX4_addLine 161 = .ok (.iload 5, 2) := by decide +kernel
theorem dX4_addLine_163 : decode cX4_addLine 163 = .ok (.invokevirtual 158, 3) := by decide +kernel
theorem dX4_addLine_166 : decode cX4_addLine 166 = .ok (.goto 126, 3) := by decide +kernel
theorem dX4_addLine_169 : decode cX4_addLine 169 = .ok (.iload_n 2, 1) := by decide +kernel
theorem dX4_addLine_170 : decode cX4_addLine 170 = .ok (.iconst 1, 1) := by decide +kernel
theorem dX4_addLine_171 : decode cX4_addLine 171 = .ok (.if_icmp .eq 18, 3) := by decide +kernel
theorem dX4_addLine_174 : decode cX4_addLine 174 = .ok (.iload_n 2, 1) := by decide +kernel
theorem dX4_addLine_175 : decode cX4_addLine 175 = .ok (.iconst 3, 1) := by decide +kernel
theorem dX4_addLine_176 : decode cX4_addLine 176 = .ok (.if_icmp .eq 13, 3) := by decide +kernel
theorem dX4_addLine_179 : decode cX4_addLine 179 = .ok (.iload_n 2, 1) := by decide +kernel
theorem dX4_addLine_180 : decode cX4_addLine 180 = .ok (.iconst 4, 1) := by decide +kernel
theorem dX4_addLine_181 : decode cX4_addLine 181 = .ok (.if_icmp .eq 8, 3) := by decide +kernel
theorem dX4_addLine_184 : decode cX4_addLine 184 = .ok (.iload_n 2, 1) := by decide +kernel
theorem dX4_addLine_185 : decode cX4_addLine 185 = .ok (.iconst 5, 1) := by decide +kernel
theorem dX4_addLine_186 : decode cX4_addLine 186 = .ok (.if_icmp .ne 7, 3) := by decide +kernel
theorem dX4_addLine_189 : decode cX4_addLine 189 = .ok (.iconst 1, 1) := by decide +kernel
theorem dX4_addLine_190 : decode cX4_addLine 190 = .ok (.goto 4, 3) := by decide +kernel
theorem dX4_addLine_193 : decode cX4_addLine 193 = .ok (.iconst 0, 1) := by decide +kernel
theorem dX4_addLine_194 : decode cX4_addLine 194 = .ok (.istore 6, 2) := by decide +kernel
theorem dX4_addLine_196 : decode cX4_addLine 196 = .ok (.iload_n 2, 1) := by decide +kernel
theorem dX4_addLine_197 : decode cX4_addLine 197 = .ok (.iconst 4, 1) := by decide +kernel
theorem dX4_addLine_198 : decode cX4_addLine 198 = .ok (.if_icmp .eq 19, 3) := by decide +kernel
theorem dX4_addLine_201 : decode cX4_addLine 201 = .ok (.iload_n 2, 1) := by decide +kernel
theorem dX4_addLine_202 : decode cX4_addLine 202 = .ok (.bipush 6, 2) := by decide +kernel
theorem dX4_addLine_204 : decode cX4_addLine 204 = .ok (.if_icmp .eq 13, 3) := by decide +kernel
theorem dX4_addLine_207 : decode cX4_addLine 207 = .ok (.iload_n 2, 1) := by decide +kernel
theorem dX4_addLine_208 : decode cX4_addLine 208 = .ok (.bipush 7, 2) := by decide +kernel
theorem dX4_addLine_210 : decode cX4_addLine 210 = .ok (.if_icmp .eq 7, 3) := by decide +kernel
theorem dX4_addLine_213 : decode cX4_addLine 213 = .ok (.iconst 1, 1) := by decide +kernel
theorem dX4_addLine_214 : decode cX4_addLine 214 = .ok (.goto 4, 3) := by decide +kernel
theorem dX4_addLine_217 : decode cX4_addLine 217 = .ok (.iconst 0, 1) := by decide +kernel
theorem dX4_addLine_218 : decode cX4_addLine 218 = .ok (.istore 7, 2) := by decide +kernel
theorem dX4_addLine_220 : decode cX4_addLine 220 = .ok (.aload_n 3, 1) := by decide +kernel
theorem dX4_addLine_221 : decode cX4_addLine 221 = .ok (.iload 4, 2) := by decide +kernel
theorem dX4_addLine_223 : decode cX4_addLine 223 = .ok (.iconst 0, 1) := by decide +kernel
theorem dX4_addLine_224 : decode cX4_addLine 224 = .ok (.iload_n 2, 1) := by decide +kernel
theorem dX4_addLine_225 : decode cX4_addLine 225 = .ok (.invokevirtual 158, 3) := by decide +kernel
theorem dX4_addLine_228 : decode cX4_addLine 228 = .ok (.aload_n 3, 1) := by decide +kernel
theorem dX4_addLine_229 : decode cX4_addLine 229 = .ok (.iload 4, 2) := by decide +kernel
theorem dX4_addLine_231 : decode cX4_addLine 231 = .ok (.iconst 1, 1) := by decide +kernel
theorem dX4_addLine_232 : decode cX4_addLine 232 = .ok (.iload 6, 2) := by decide +kernel
theorem dX4_addLine_234 : decode cX4_addLine 234 = .ok (.ifCond .eq 12, 3) := by decide +kernel
theorem dX4_addLine_237 : decode cX4_addLine 237 = .ok (.aload_n 0, 1) := by decide +kernel
theorem dX4_addLine_238 : decode cX4_addLine 238 = .ok (.getfield 37, 3) := by decide +kernel
theorem dX4_addLine_241 : decode cX4_addLine 241 = .ok (.iconst 0, 1) := by decide +kernel
theorem dX4_addLine_242 : decode cX4_addLine 242 = .ok (.iaload, 1) := by decide +kernel
theorem dX4_addLine_243 : decode cX4_addLine 243 = .ok (.goto 5, 3) := by decide +kernel
theorem dX4_addLine_246 : decode cX4_addLine 246 = .ok (.bipush (-4), 2) := by decide +kernel
theorem dX4_addLine_248 : decode cX4_addLine 248 = .ok (.invokevirtual 158, 3) := by decide +kernel
theorem dX4_addLine_251 : decode cX4_addLine 251 = .ok (.aload_n 3, 1) := by decide +kernel
theorem dX4_addLine_252 : decode cX4_addLine 252 = .ok (.iload 4, 2) := by decide +kernel
theorem dX4_addLine_254 : decode cX4_addLine 254 = .ok (.iconst 2, 1) := by decide +kernel
theorem dX4_addLine_255 : decode cX4_addLine 255 = .ok (.iload 7, 2) := by decide +kernel
theorem dX4_addLine_257 : decode cX4_addLine 257 = .ok (.ifCond .eq 21, 3) := by decide +kernel
theorem dX4_addLine_260 : decode cX4_addLine 260 = .ok (.aload_n 0, 1) := by decide +kernel
theorem dX4_addLine_261 : decode cX4_addLine 261 = .ok (.getfield 37, 3) := by decide +kernel
theorem dX4_addLine_264 : decode cX4_addLine 264 = .ok (.iload 6, 2) := by decide +kernel
theorem dX4_addLine_266 : decode cX4_addLine 266 = .ok (.ifCond .eq 7, 3) := by decide +kernel
theorem dX4_addLine_269 : decode cX4_addLine 269 = .ok (.iconst 1, 1) := by decide +kernel
theorem dX4_addLine_270 : decode cX4_addLine 270 = .ok (.goto 4, 3) := by decide +kernel
theorem dX4_addLine_273 : decode cX4_addLine 273 = .ok (.iconst 0, 1) := by decide +kernel
theorem dX4_addLine_274 : decode cX4_addLine 274 = .ok (.iaload, 1) := by decide +kernel
theorem dX4_addLine_275 : decode cX4_addLine 275 = .ok (.goto 5, 3) := by decide +kernel
theorem dX4_addLine_278 : decode cX4_addLine 278 = .ok (.bipush (-4), 2) := by decide +kernel
theorem dX4_addLine_280 : decode cX4_addLine 280 = .ok (.invokevirtual 158, 3) := by decide +kernel
theorem dX4_addLine_283 : decode cX4_addLine 283 = .ok (.aload_n 3, 1) := by decide +kernel
theorem dX4_addLine_284 : decode cX4_addLine 284 = .ok (.iload 4, 2) := by decide +kernel
theorem dX4_addLine_286 : decode cX4_addLine 286 = .ok (.iconst 3, 1) := by decide +kernel
theorem dX4_addLine_287 : decode cX4_addLine 287 = .ok (.iload 5, 2) := by decide +kernel
theorem dX4_addLine_289 : decode cX4_addLine 289 = .ok (.invokevirtual 158, 3) := by decide +kernel
theorem dX4_addLine_292 : decode cX4_addLine 292 = .ok (.return_, 1) := by decide +kernel
set_option maxRecDepth 20000 in
theorem ggX4_nextToken_X4_isLetter : GoodIn wsX4_nextToken wsX4_isLetter := goodIn_r _ [10] rfl rfl
set_option maxRecDepth 20000 in
theorem gX4_nextToken_X4_isLetter : GoodIn wsX4_nextToken (va_wsS RX4 162 yX4_isLetter wsX4_isLetter) := goodIn_app (goodIn_of _ (by decide +kernel)) ggX4_nextToken_X4_isLetter
set_option maxRecDepth 20000 in
theorem ggX4_nextToken_X4_readName : GoodIn wsX4_nextToken wsX4_readName := goodIn_r _ [14, 6, 1, 2, 3, 7, 8, 9, 10, 28, 29, 30, 31, 32, 33, 34, 35, 36] rfl rfl
set_option maxRecDepth 20000 in
theorem gX4_nextToken_X4_readName : GoodIn wsX4_nextToken (wsV RX4 166 RX4 yX4_readName wsX4_readName) := goodIn_app (goodIn_of _ (by decide +kernel)) ggX4_nextToken_X4_readName
set_option maxRecDepth 20000 in
theorem ggX4_nextToken_X4_isFigure : GoodIn wsX4_nextToken wsX4_isFigure := goodIn_r _ [17] rfl rfl
set_option maxRecDepth 20000 in
theorem gX4_nextToken_X4_isFigure : GoodIn wsX4_nextToken (va_wsS RX4 169 yX4_isFigure wsX4_isFigure) := goodIn_app (goodIn_of _ (by decide +kernel)) ggX4_nextToken_X4_isFigure
set_option maxRecDepth 20000 in
theorem ggX4_nextToken_X4_readNumber : GoodIn wsX4_nextToken wsX4_readNumber := goodIn_r _ [21, 1, 2, 3, 4, 5, 6, 15, 16, 9, 17, 28, 29, 30, 31, 32, 33, 34, 35, 36] rfl rfl
set_option maxRecDepth 20000 in
theorem gX4_nextToken_X4_readNumber : GoodIn wsX4_nextToken (wsV RX4 172 RX4 yX4_readNumber wsX4_readNumber) := goodIn_app (goodIn_of _ (by decide +kernel)) ggX4_nextToken_X4_readNumber
set_option maxRecDepth 20000 in
theorem ggX4_nextToken_X4_refuse : GoodIn wsX4_nextToken wsX4_refuse := goodIn_r _ [25, 26, 27, 28, 29, 30, 31, 32, 33, 34, 35, 36] rfl rfl
set_option maxRecDepth 20000 in
theorem gX4_nextToken_X4_refuse : GoodIn wsX4_nextToken (wsV RX4 56 RX4 yX4_refuse wsX4_refuse) := goodIn_app (goodIn_of _ (by decide +kernel)) ggX4_nextToken_X4_refuse
theorem dX4_nextToken_0 : decode cX4_nextToken 0 = .ok (.aload_n 0, 1) := by decide +kernel
theorem dX4_nextToken_1 : decode cX4_nextToken 1 = .ok (.getfield 31, 3) := by decide +kernel
theorem dX4_nextToken_4 : decode cX4_nextToken 4 = .ok (.istore_n 1, 1) := by decide +kernel
theorem dX4_nextToken_5 : decode cX4_nextToken 5 = .ok (.iload_n 1, 1) := by decide +kernel
theorem dX4_nextToken_6 : decode cX4_nextToken 6 = .ok (.aload_n 0, 1) := by decide +kernel
theorem dX4_nextToken_7 : decode cX4_nextToken 7 = .ok (.getfield 15, 3) := by decide +kernel
theorem dX4_nextToken_10 : decode cX4_nextToken 10 = .ok (.if_icmp .ge 20, 3) := by decide +kernel
theorem dX4_nextToken_13 : decode cX4_nextToken 13 = .ok (.aload_n 0, 1) := by decide +kernel
theorem dX4_nextToken_14 : decode cX4_nextToken 14 = .ok (.getfield 9, 3) := by decide +kernel
theorem dX4_nextToken_17 : decode cX4_nextToken 17 = .ok (.iload_n 1, 1) := by decide +kernel
theorem dX4_nextToken_18 : decode cX4_nextToken 18 = .ok (.iaload, 1) := by decide +kernel
theorem dX4_nextToken_19 : decode cX4_nextToken 19 = .ok (.bipush 32, 2) := by decide +kernel
theorem dX4_nextToken_21 : decode cX4_nextToken 21 = .ok (.if_icmp .ne 9, 3) := by decide +kernel
theorem dX4_nextToken_24 : decode cX4_nextToken 24 = .ok (.iinc 1 1, 3) := by decide +kernel
theorem dX4_nextToken_27 : decode cX4_nextToken 27 = .ok (.goto (-22), 3) := by decide +kernel
theorem dX4_nextToken_30 : decode cX4_nextToken 30 = .ok (.aload_n 0, 1) := by decide +kernel
theorem dX4_nextToken_31 : decode cX4_nextToken 31 = .ok (.iload_n 1, 1) := by decide +kernel
theorem dX4_nextToken_32 : decode cX4_nextToken 32 = .ok (.putfield 28, 3) := by decide +kernel
theorem dX4_nextToken_35 : decode cX4_nextToken 35 = .ok (.aload_n 0, 1) := by decide +kernel
theorem dX4_nextToken_36 : decode cX4_nextToken 36 = .ok (.iload_n 1, 1) := by decide +kernel
theorem dX4_nextToken_37 : decode cX4_nextToken 37 = .ok (.putfield 31, 3) := by decide +kernel
theorem dX4_nextToken_40 : decode cX4_nextToken 40 = .ok (.aload_n 0, 1) := by decide +kernel
theorem dX4_nextToken_41 : decode cX4_nextToken 41 = .ok (.iconst 0, 1) := by decide +kernel
theorem dX4_nextToken_42 : decode cX4_nextToken 42 = .ok (.putfield 34, 3) := by decide +kernel
theorem dX4_nextToken_45 : decode cX4_nextToken 45 = .ok (.iload_n 1, 1) := by decide +kernel
theorem dX4_nextToken_46 : decode cX4_nextToken 46 = .ok (.aload_n 0, 1) := by decide +kernel
theorem dX4_nextToken_47 : decode cX4_nextToken 47 = .ok (.getfield 15, 3) := by decide +kernel
theorem dX4_nextToken_50 : decode cX4_nextToken 50 = .ok (.if_icmp .lt 11, 3) := by decide +kernel
theorem dX4_nextToken_53 : decode cX4_nextToken 53 = .ok (.aload_n 0, 1) := by decide +kernel
theorem dX4_nextToken_54 : decode cX4_nextToken 54 = .ok (.iconst 0, 1) := by decide +kernel
theorem dX4_nextToken_55 : decode cX4_nextToken 55 = .ok (.putfield 25, 3) := by decide +kernel
theorem dX4_nextToken_58 : decode cX4_nextToken 58 = .ok (.goto 68, 3) := by decide +kernel
theorem dX4_nextToken_61 : decode cX4_nextToken 61 = .ok (.aload_n 0, 1) := by decide +kernel
theorem dX4_nextToken_62 : decode cX4_nextToken 62 = .ok (.getfield 9, 3) := by decide +kernel
theorem dX4_nextToken_65 : decode cX4_nextToken 65 = .ok (.iload_n 1, 1) := by decide +kernel
theorem dX4_nextToken_66 : decode cX4_nextToken 66 = .ok (.iaload, 1) := by decide +kernel
theorem dX4_nextToken_67 : decode cX4_nextToken 67 = .ok (.invokestatic 162, 3) := by decide +kernel
theorem dX4_nextToken_70 : decode cX4_nextToken 70 = .ok (.ifCond .eq 10, 3) := by decide +kernel
theorem dX4_nextToken_73 : decode cX4_nextToken 73 = .ok (.aload_n 0, 1) := by decide +kernel
theorem dX4_nextToken_74 : decode cX4_nextToken 74 = .ok (.invokevirtual 166, 3) := by decide +kernel
theorem dX4_nextToken_77 : decode cX4_nextToken 77 = .ok (.goto 49, 3) := by decide +kernel
theorem dX4_nextToken_80 : decode cX4_nextToken 80 = .ok (.aload_n 0, 1) := by decide +kernel
theorem dX4_nextToken_81 : decode cX4_nextToken 81 = .ok (.getfield 9, 3) := by decide +kernel
theorem dX4_nextToken_84 : decode cX4_nextToken 84 = .ok (.iload_n 1, 1) := by decide +kernel
theorem dX4_nextToken_85 : decode cX4_nextToken 85 = .ok (.iaload, 1) := by decide +kernel
theorem dX4_nextToken_86 : decode cX4_nextToken 86 = .ok (.invokestatic 169, 3) := by decide +kernel
theorem dX4_nextToken_89 : decode cX4_nextToken 89 = .ok (.ifCond .eq 10, 3) := by decide +kernel
theorem dX4_nextToken_92 : decode cX4_nextToken 92 = .ok (.aload_n 0, 1) := by decide +kernel
theorem dX4_nextToken_93 : decode cX4_nextToken 93 = .ok (.invokevirtual 172, 3) := by decide +kernel
theorem dX4_nextToken_96 : decode cX4_nextToken 96 = .ok (.goto 30, 3) := by decide +kernel
theorem dX4_nextToken_99 : decode cX4_nextToken 99 = .ok (.aload_n 0, 1) := by decide +kernel
theorem dX4_nextToken_100 : decode cX4_nextToken 100 = .ok (.aload_n 0, 1) := by decide +kernel
theorem dX4_nextToken_101 : decode cX4_nextToken 101 = .ok (.getfield 9, 3) := by decide +kernel
theorem dX4_nextToken_104 : decode cX4_nextToken 104 = .ok (.iload_n 1, 1) := by decide +kernel
theorem dX4_nextToken_105 : decode cX4_nextToken 105 = .ok (.iaload, 1) := by decide +kernel
theorem dX4_nextToken_106 : decode cX4_nextToken 106 = .ok (.bipush 59, 2) := by decide +kernel
theorem dX4_nextToken_108 : decode cX4_nextToken 108 = .ok (.if_icmp .ne 7, 3) := by decide +kernel
theorem dX4_nextToken_111 : decode cX4_nextToken 111 = .ok (.iconst 4, 1) := by decide +kernel
theorem dX4_nextToken_112 : decode cX4_nextToken 112 = .ok (.goto 4, 3) := by decide +kernel
theorem dX4_nextToken_115 : decode cX4_nextToken 115 = .ok (.iconst 1, 1) := by decide +kernel
theorem dX4_nextToken_116 : decode cX4_nextToken 116 = .ok (.putfield 25, 3) := by decide +kernel
theorem dX4_nextToken_119 : decode cX4_nextToken 119 = .ok (.aload_n 0, 1) := by decide +kernel
theorem dX4_nextToken_120 : decode cX4_nextToken 120 = .ok (.iload_n 1, 1) := by decide +kernel
theorem dX4_nextToken_121 : decode cX4_nextToken 121 = .ok (.iconst 1, 1) := by decide +kernel
theorem dX4_nextToken_122 : decode cX4_nextToken 122 = .ok (.iadd, 1) := by decide +kernel
theorem dX4_nextToken_123 : decode cX4_nextToken 123 = .ok (.putfield 31, 3) := by decide +kernel
theorem dX4_nextToken_126 : decode cX4_nextToken 126 = .ok (.aload_n 0, 1) := by decide +kernel
theorem dX4_nextToken_127 : decode cX4_nextToken 127 = .ok (.getfield 25, 3) := by decide +kernel
theorem dX4_nextToken_130 : decode cX4_nextToken 130 = .ok (.iconst 1, 1) := by decide +kernel
theorem dX4_nextToken_131 : decode cX4_nextToken 131 = .ok (.if_icmp .ne 12, 3) := by decide +kernel
theorem dX4_nextToken_134 : decode cX4_nextToken 134 = .ok (.aload_n 0, 1) := by decide +kernel
theorem dX4_nextToken_135 : decode cX4_nextToken 135 = .ok (.iconst 1, 1) := by decide +kernel
theorem dX4_nextToken_136 : decode cX4_nextToken 136 = .ok (.aload_n 0, 1) := by decide +kernel
theorem dX4_nextToken_137 : decode cX4_nextToken 137 = .ok (.getfield 28, 3) := by decide +kernel
theorem dX4_nextToken_140 : decode cX4_nextToken 140 = .ok (.invokevirtual 56, 3) := by decide +kernel
theorem dX4_nextToken_143 : decode cX4_nextToken 143 = .ok (.return_, 1) := by decide +kernel
set_option maxRecDepth 20000 in
theorem ggX4_readName_X4_isLetter : GoodIn wsX4_readName wsX4_isLetter := goodIn_r _ [8] rfl rfl
set_option maxRecDepth 20000 in
theorem gX4_readName_X4_isLetter : GoodIn wsX4_readName (va_wsS RX4 162 yX4_isLetter wsX4_isLetter) := goodIn_app (goodIn_of _ (by decide +kernel)) ggX4_readName_X4_isLetter
theorem dX4_readName_0 : decode cX4_readName 0 = .ok (.aload_n 0, 1) := by decide +kernel
theorem dX4_readName_1 : decode cX4_readName 1 = .ok (.iconst 2, 1) := by decide +kernel
theorem dX4_readName_2 : decode cX4_readName 2 = .ok (.putfield 25, 3) := by decide +kernel
theorem dX4_readName_5 : decode cX4_readName 5 = .ok (.aload_n 0, 1) := by decide +kernel
theorem dX4_readName_6 : decode cX4_readName 6 = .ok (.getfield 31, 3) := by decide +kernel
theorem dX4_readName_9 : decode cX4_readName 9 = .ok (.aload_n 0, 1) := by decide +kernel
theorem dX4_readName_10 : decode cX4_readName 10 = .ok (.getfield 15, 3) := by decide +kernel
theorem dX4_readName_13 : decode cX4_readName 13 = .ok (.if_icmp .ge 31, 3) := by decide +kernel
theorem dX4_readName_16 : decode cX4_readName 16 = .ok (.aload_n 0, 1) := by decide +kernel
theorem dX4_readName_17 : decode cX4_readName 17 = .ok (.getfield 9, 3) := by decide +kernel
theorem dX4_readName_20 : decode cX4_readName 20 = .ok (.aload_n 0, 1) := by decide +kernel
theorem dX4_readName_21 : decode cX4_readName 21 = .ok (.getfield 31, 3) := by decide +kernel
theorem dX4_readName_24 : decode cX4_readName 24 = .ok (.iaload, 1) := by decide +kernel
theorem dX4_readName_25 : decode cX4_readName 25 = .ok (.invokestatic 162, 3) := by decide +kernel
theorem dX4_readName_28 : decode cX4_readName 28 = .ok (.ifCond .eq 16, 3) := by decide +kernel
theorem dX4_readName_31 : decode cX4_readName 31 = .ok (.aload_n 0, 1) := by decide +kernel
theorem dX4_readName_32 : decode cX4_readName 32 = .ok (.dup, 1) := by decide +kernel
theorem dX4_readName_33 : decode cX4_readName 33 = .ok (.getfield 31, 3) := by decide +kernel
theorem dX4_readName_36 : decode cX4_readName 36 = .ok (.iconst 1, 1) := by decide +kernel
theorem dX4_readName_37 : decode cX4_readName 37 = .ok (.iadd, 1) := by decide +kernel
theorem dX4_readName_38 : decode cX4_readName 38 = .ok (.putfield 31, 3) := by decide +kernel
theorem dX4_readName_41 : decode cX4_readName 41 = .ok (.goto (-36), 3) := by decide +kernel
theorem dX4_readName_44 : decode cX4_readName 44 = .ok (.return_, 1) := by decide +kernel
set_option maxRecDepth 20000 in
theorem ggX4_readNumber_X4_isFigure : GoodIn wsX4_readNumber wsX4_isFigure := goodIn_r _ [10] rfl rfl
set_option maxRecDepth 20000 in
theorem gX4_readNumber_X4_isFigure : GoodIn wsX4_readNumber (va_wsS RX4 169 yX4_isFigure wsX4_isFigure) := goodIn_app (goodIn_of _ (by decide +kernel)) ggX4_readNumber_X4_isFigure
theorem dX4_readNumber_0 : decode cX4_readNumber 0 = .ok (.aload_n 0, 1) := by decide +kernel
theorem dX4_readNumber_1 : decode cX4_readNumber 1 = .ok (.getfield 31, 3) := by decide +kernel
theorem dX4_readNumber_4 : decode cX4_readNumber 4 = .ok (.aload_n 0, 1) := by decide +kernel
theorem dX4_readNumber_5 : decode cX4_readNumber 5 = .ok (.getfield 15, 3) := by decide +kernel
theorem dX4_readNumber_8 : decode cX4_readNumber 8 = .ok (.if_icmp .ge 68, 3) := by decide +kernel
theorem dX4_readNumber_11 : decode cX4_readNumber 11 = .ok (.aload_n 0, 1) := by decide +kernel
theorem dX4_readNumber_12 : decode cX4_readNumber 12 = .ok (.getfield 9, 3) := by decide +kernel
theorem dX4_readNumber_15 : decode cX4_readNumber 15 = .ok (.aload_n 0, 1) := by decide +kernel
theorem dX4_readNumber_16 : decode cX4_readNumber 16 = .ok (.getfield 31, 3) := by decide +kernel
theorem dX4_readNumber_19 : decode cX4_readNumber 19 = .ok (.iaload, 1) := by decide +kernel
theorem dX4_readNumber_20 : decode cX4_readNumber 20 = .ok (.invokestatic 169, 3) := by decide +kernel
theorem dX4_readNumber_23 : decode cX4_readNumber 23 = .ok (.ifCond .eq 53, 3) := by decide +kernel
theorem dX4_readNumber_26 : decode cX4_readNumber 26 = .ok (.aload_n 0, 1) := by decide +kernel
theorem dX4_readNumber_27 : decode cX4_readNumber 27 = .ok (.getfield 31, 3) := by decide +kernel
theorem dX4_readNumber_30 : decode cX4_readNumber 30 = .ok (.aload_n 0, 1) := by decide +kernel
theorem dX4_readNumber_31 : decode cX4_readNumber 31 = .ok (.getfield 28, 3) := by decide +kernel
theorem dX4_readNumber_34 : decode cX4_readNumber 34 = .ok (.isub, 1) := by decide +kernel
theorem dX4_readNumber_35 : decode cX4_readNumber 35 = .ok (.iconst 3, 1) := by decide +kernel
theorem dX4_readNumber_36 : decode cX4_readNumber 36 = .ok (.if_icmp .ge 27, 3) := by decide +kernel
theorem dX4_readNumber_39 : decode cX4_readNumber 39 = .ok (.aload_n 0, 1) := by decide +kernel
theorem dX4_readNumber_40 : decode cX4_readNumber 40 = .ok (.aload_n 0, 1) := by decide +kernel
theorem dX4_readNumber_41 : decode cX4_readNumber 41 = .ok (.getfield 34, 3) := by decide +kernel
theorem dX4_readNumber_44 : decode cX4_readNumber 44 = .ok (.bipush 10, 2) := by decide +kernel
theorem dX4_readNumber_46 : decode cX4_readNumber 46 = .ok (.imul, 1) := by decide +kernel
theorem dX4_readNumber_47 : decode cX4_readNumber 47 = .ok (.aload_n 0, 1) := by decide +kernel
theorem dX4_readNumber_48 : decode cX4_readNumber 48 = .ok (.getfield 9, 3) := by decide +kernel
theorem dX4_readNumber_51 : decode cX4_readNumber 51 = .ok (.aload_n 0, 1) := by decide +kernel
theorem dX4_readNumber_52 : decode cX4_readNumber 52 = .ok (.getfield 31, 3) := by decide +kernel
theorem dX4_readNumber_55 : decode cX4_readNumber 55 = .ok (.iaload, 1) := by decide +kernel
theorem dX4_readNumber_56 : decode cX4_readNumber 56 = .ok (.bipush 48, 2) := by decide +kernel
theorem dX4_readNumber_58 : decode cX4_readNumber 58 = .ok (.isub, 1) := by decide +kernel
theorem dX4_readNumber_59 : decode cX4_readNumber 59 = .ok (.iadd, 1) := by decide +kernel
theorem dX4_readNumber_60 : decode cX4_readNumber 60 = .ok (.putfield 34, 3) := by decide +kernel
theorem dX4_readNumber_63 : decode cX4_readNumber 63 = .ok (.aload_n 0, 1) := by decide +kernel
theorem dX4_readNumber_64 : decode cX4_readNumber 64 = .ok (.dup, 1) := by decide +kernel
theorem dX4_readNumber_65 : decode cX4_readNumber 65 = .ok (.getfield 31, 3) := by decide +kernel
theorem dX4_readNumber_68 : decode cX4_readNumber 68 = .ok (.iconst 1, 1) := by decide +kernel
theorem dX4_readNumber_69 : decode cX4_readNumber 69 = .ok (.iadd, 1) := by decide +kernel
theorem dX4_readNumber_70 : decode cX4_readNumber 70 = .ok (.putfield 31, 3) := by decide +kernel
theorem dX4_readNumber_73 : decode cX4_readNumber 73 = .ok (.goto (-73), 3) := by decide +kernel
theorem dX4_readNumber_76 : decode cX4_readNumber 76 = .ok (.aload_n 0, 1) := by decide +kernel
theorem dX4_readNumber_77 : decode cX4_readNumber 77 = .ok (.aload_n 0, 1) := by decide +kernel
theorem dX4_readNumber_78 : decode cX4_readNumber 78 = .ok (.getfield 31, 3) := by decide +kernel
theorem dX4_readNumber_81 : decode cX4_readNumber 81 = .ok (.aload_n 0, 1) := by decide +kernel
theorem dX4_readNumber_82 : decode cX4_readNumber 82 = .ok (.getfield 28, 3) := by decide +kernel
theorem dX4_readNumber_85 : decode cX4_readNumber 85 = .ok (.isub, 1) := by decide +kernel
theorem dX4_readNumber_86 : decode cX4_readNumber 86 = .ok (.iconst 3, 1) := by decide +kernel
theorem dX4_readNumber_87 : decode cX4_readNumber 87 = .ok (.if_icmp .le 7, 3) := by decide +kernel
theorem dX4_readNumber_90 : decode cX4_readNumber 90 = .ok (.iconst 1, 1) := by decide +kernel
theorem dX4_readNumber_91 : decode cX4_readNumber 91 = .ok (.goto 4, 3) := by decide +kernel
theorem dX4_readNumber_94 : decode cX4_readNumber 94 = .ok (.iconst 3, 1) := by decide +kernel
theorem dX4_readNumber_95 : decode cX4_readNumber 95 = .ok (.putfield 25, 3) := by decide +kernel
theorem dX4_readNumber_98 : decode cX4_readNumber 98 = .ok (.return_, 1) := by decide +kernel
theorem dX4_isLetter_0 : decode cX4_isLetter 0 = .ok (.iload_n 0, 1) := by decide +kernel
theorem dX4_isLetter_1 : decode cX4_isLetter 1 = .ok (.bipush 97, 2) := by decide +kernel
theorem dX4_isLetter_3 : decode cX4_isLetter 3 = .ok (.if_icmp .lt 13, 3) := by decide +kernel
theorem dX4_isLetter_6 : decode cX4_isLetter 6 = .ok (.iload_n 0, 1) := by decide +kernel
theorem dX4_isLetter_7 : decode cX4_isLetter 7 = .ok (.bipush 122, 2) := by decide +kernel
theorem dX4_isLetter_9 : decode cX4_isLetter 9 = .ok (.if_icmp .gt 7, 3) := by decide +kernel
theorem dX4_isLetter_12 : decode cX4_isLetter 12 = .ok (.iconst 1, 1) := by decide +kernel
theorem dX4_isLetter_13 : decode cX4_isLetter 13 = .ok (.goto 4, 3) := by decide +kernel
theorem dX4_isLetter_16 : decode cX4_isLetter 16 = .ok (.iconst 0, 1) := by decide +kernel
theorem dX4_isLetter_17 : decode cX4_isLetter 17 = .ok (.ireturn, 1) := by decide +kernel
theorem dX4_isFigure_0 : decode cX4_isFigure 0 = .ok (.iload_n 0, 1) := by decide +kernel
theorem dX4_isFigure_1 : decode cX4_isFigure 1 = .ok (.bipush 48, 2) := by decide +kernel
theorem dX4_isFigure_3 : decode cX4_isFigure 3 = .ok (.if_icmp .lt 13, 3) := by decide +kernel
theorem dX4_isFigure_6 : decode cX4_isFigure 6 = .ok (.iload_n 0, 1) := by decide +kernel
theorem dX4_isFigure_7 : decode cX4_isFigure 7 = .ok (.bipush 57, 2) := by decide +kernel
theorem dX4_isFigure_9 : decode cX4_isFigure 9 = .ok (.if_icmp .gt 7, 3) := by decide +kernel
theorem dX4_isFigure_12 : decode cX4_isFigure 12 = .ok (.iconst 1, 1) := by decide +kernel
theorem dX4_isFigure_13 : decode cX4_isFigure 13 = .ok (.goto 4, 3) := by decide +kernel
theorem dX4_isFigure_16 : decode cX4_isFigure 16 = .ok (.iconst 0, 1) := by decide +kernel
theorem dX4_isFigure_17 : decode cX4_isFigure 17 = .ok (.ireturn, 1) := by decide +kernel
set_option maxRecDepth 20000 in
theorem ggX4_refuseUnless_X4_refuse : GoodIn wsX4_refuseUnless wsX4_refuse := goodIn_r _ [6, 7, 8, 9, 10, 11, 12, 13, 14, 15, 16, 17] rfl rfl
set_option maxRecDepth 20000 in
theorem gX4_refuseUnless_X4_refuse : GoodIn wsX4_refuseUnless (wsV RX4 56 RX4 yX4_refuse wsX4_refuse) := goodIn_app (goodIn_of _ (by decide +kernel)) ggX4_refuseUnless_X4_refuse
theorem dX4_refuseUnless_0 : decode cX4_refuseUnless 0 = .ok (.iload_n 1, 1) := by decide +kernel
theorem dX4_refuseUnless_1 : decode cX4_refuseUnless 1 = .ok (.ifCond .ne 12, 3) := by decide +kernel
theorem dX4_refuseUnless_4 : decode cX4_refuseUnless 4 = .ok (.aload_n 0, 1) := by decide +kernel
theorem dX4_refuseUnless_5 : decode cX4_refuseUnless 5 = .ok (.iconst 2, 1) := by decide +kernel
theorem dX4_refuseUnless_6 : decode cX4_refuseUnless 6 = .ok (.aload_n 0, 1) := by decide +kernel
theorem dX4_refuseUnless_7 : decode cX4_refuseUnless 7 = .ok (.getfield 28, 3) := by decide +kernel
theorem dX4_refuseUnless_10 : decode cX4_refuseUnless 10 = .ok (.invokevirtual 56, 3) := by decide +kernel
theorem dX4_refuseUnless_13 : decode cX4_refuseUnless 13 = .ok (.return_, 1) := by decide +kernel
theorem dX4_refuse_0 : decode cX4_refuse 0 = .ok (.aload_n 0, 1) := by decide +kernel
theorem dX4_refuse_1 : decode cX4_refuse 1 = .ok (.getfield 19, 3) := by decide +kernel
theorem dX4_refuse_4 : decode cX4_refuse 4 = .ok (.ifCond .ne 13, 3) := by decide +kernel
theorem dX4_refuse_7 : decode cX4_refuse 7 = .ok (.aload_n 0, 1) := by decide +kernel
theorem dX4_refuse_8 : decode cX4_refuse 8 = .ok (.iload_n 1, 1) := by decide +kernel
theorem dX4_refuse_9 : decode cX4_refuse 9 = .ok (.putfield 19, 3) := by decide +kernel
theorem dX4_refuse_12 : decode cX4_refuse 12 = .ok (.aload_n 0, 1) := by decide +kernel
theorem dX4_refuse_13 : decode cX4_refuse 13 = .ok (.iload_n 2, 1) := by decide +kernel
theorem dX4_refuse_14 : decode cX4_refuse 14 = .ok (.putfield 22, 3) := by decide +kernel
theorem dX4_refuse_17 : decode cX4_refuse 17 = .ok (.return_, 1) := by decide +kernel
theorem dX5_init_0 : decode cX5_init 0 = .ok (.aload_n 0, 1) := by decide +kernel
theorem dX5_init_1 : decode cX5_init 1 = .ok (.invokespecial 3, 3) := by decide +kernel
theorem dX5_init_4 : decode cX5_init 4 = .ok (.aload_n 0, 1) := by decide +kernel
theorem dX5_init_5 : decode cX5_init 5 = .ok (.bipush 120, 2) := by decide +kernel
theorem dX5_init_7 : decode cX5_init 7 = .ok (.newarray .int, 2) := by decide +kernel
theorem dX5_init_9 : decode cX5_init 9 = .ok (.putfield 9, 3) := by decide +kernel
theorem dX5_init_12 : decode cX5_init 12 = .ok (.aload_n 0, 1) := by decide +kernel
theorem dX5_init_13 : decode cX5_init 13 = .ok (.bipush 20, 2) := by decide +kernel
theorem dX5_init_15 : decode cX5_init 15 = .ok (.newarray .int, 2) := by decide +kernel
theorem dX5_init_17 : decode cX5_init 17 = .ok (.putfield 15, 3) := by decide +kernel
theorem dX5_init_20 : decode cX5_init 20 = .ok (.aload_n 0, 1) := by decide +kernel
theorem dX5_init_21 : decode cX5_init 21 = .ok (.bipush 20, 2) := by decide +kernel
theorem dX5_init_23 : decode cX5_init 23 = .ok (.newarray .int, 2) := by decide +kernel
theorem dX5_init_25 : decode cX5_init 25 = .ok (.putfield 18, 3) := by decide +kernel
theorem dX5_init_28 : decode cX5_init 28 = .ok (.aload_n 0, 1) := by decide +kernel
theorem dX5_init_29 : decode cX5_init 29 = .ok (.bipush 20, 2) := by decide +kernel
theorem dX5_init_31 : decode cX5_init 31 = .ok (.newarray .int, 2) := by decide +kernel
theorem dX5_init_33 : decode cX5_init 33 = .ok (.putfield 21, 3) := by decide +kernel
theorem dX5_init_36 : decode cX5_init 36 = .ok (.aload_n 0, 1) := by decide +kernel
theorem dX5_init_37 : decode cX5_init 37 = .ok (.iconst 0, 1) := by decide +kernel
theorem dX5_init_38 : decode cX5_init 38 = .ok (.putfield 24, 3) := by decide +kernel
theorem dX5_init_41 : decode cX5_init 41 = .ok (.aload_n 0, 1) := by decide +kernel
theorem dX5_init_42 : decode cX5_init 42 = .ok (.iconst 0, 1) := by decide +kernel
theorem dX5_init_43 : decode cX5_init 43 = .ok (.putfield 28, 3) := by decide +kernel
theorem dX5_init_46 : decode cX5_init 46 = .ok (.aload_n 0, 1) := by decide +kernel
theorem dX5_init_47 : decode cX5_init 47 = .ok (.iconst 0, 1) := by decide +kernel
theorem dX5_init_48 : decode cX5_init 48 = .ok (.putfield 31, 3) := by decide +kernel
theorem dX5_init_51 : decode cX5_init 51 = .ok (.aload_n 0, 1) := by decide +kernel
theorem dX5_init_52 : decode cX5_init 52 = .ok (.iconst 0, 1) := by decide +kernel
theorem dX5_init_53 : decode cX5_init 53 = .ok (.putfield 35, 3) := by decide +kernel
theorem dX5_init_56 : decode cX5_init 56 = .ok (.aload_n 0, 1) := by decide +kernel
theorem dX5_init_57 : decode cX5_init 57 = .ok (.iconst 0, 1) := by decide +kernel
theorem dX5_init_58 : decode cX5_init 58 = .ok (.putfield 38, 3) := by decide +kernel
theorem dX5_init_61 : decode cX5_init 61 = .ok (.return_, 1) := by decide +kernel
theorem dX5_forget_0 : decode cX5_forget 0 = .ok (.aload_n 0, 1) := by decide +kernel
theorem dX5_forget_1 : decode cX5_forget 1 = .ok (.iconst 0, 1) := by decide +kernel
theorem dX5_forget_2 : decode cX5_forget 2 = .ok (.putfield 24, 3) := by decide +kernel
theorem dX5_forget_5 : decode cX5_forget 5 = .ok (.aload_n 0, 1) := by decide +kernel
theorem dX5_forget_6 : decode cX5_forget 6 = .ok (.iconst 0, 1) := by decide +kernel
theorem dX5_forget_7 : decode cX5_forget 7 = .ok (.putfield 31, 3) := by decide +kernel
theorem dX5_forget_10 : decode cX5_forget 10 = .ok (.return_, 1) := by decide +kernel
set_option maxRecDepth 20000 in
theorem ggX5_begin_X5_add : GoodIn wsX5_begin wsX5_add := goodIn_r _ [11, 3, 12, 13, 14, 15, 16, 17, 18, 19, 20, 21] rfl rfl
set_option maxRecDepth 20000 in
theorem gX5_begin_X5_add : GoodIn wsX5_begin (wsV RX5 41 RX5 yX5_add wsX5_add) := goodIn_app (goodIn_of _ (by decide +kernel)) ggX5_begin_X5_add
theorem dX5_begin_0 : decode cX5_begin 0 = .ok (.aload_n 0, 1) := by decide +kernel
theorem dX5_begin_1 : decode cX5_begin 1 = .ok (.iconst 1, 1) := by decide +kernel
theorem dX5_begin_2 : decode cX5_begin 2 = .ok (.putfield 24, 3) := by decide +kernel
theorem dX5_begin_5 : decode cX5_begin 5 = .ok (.aload_n 0, 1) := by decide +kernel
theorem dX5_begin_6 : decode cX5_begin 6 = .ok (.iconst 0, 1) := by decide +kernel
theorem dX5_begin_7 : decode cX5_begin 7 = .ok (.putfield 28, 3) := by decide +kernel
theorem dX5_begin_10 : decode cX5_begin 10 = .ok (.aload_n 0, 1) := by decide +kernel
theorem dX5_begin_11 : decode cX5_begin 11 = .ok (.iconst 0, 1) := by decide +kernel
theorem dX5_begin_12 : decode cX5_begin 12 = .ok (.putfield 31, 3) := by decide +kernel
theorem dX5_begin_15 : decode cX5_begin 15 = .ok (.aload_n 0, 1) := by decide +kernel
theorem dX5_begin_16 : decode cX5_begin 16 = .ok (.iconst 0, 1) := by decide +kernel
theorem dX5_begin_17 : decode cX5_begin 17 = .ok (.putfield 35, 3) := by decide +kernel
theorem dX5_begin_20 : decode cX5_begin 20 = .ok (.aload_n 0, 1) := by decide +kernel
theorem dX5_begin_21 : decode cX5_begin 21 = .ok (.iconst 0, 1) := by decide +kernel
theorem dX5_begin_22 : decode cX5_begin 22 = .ok (.putfield 38, 3) := by decide +kernel
theorem dX5_begin_25 : decode cX5_begin 25 = .ok (.iconst 0, 1) := by decide +kernel
theorem dX5_begin_26 : decode cX5_begin 26 = .ok (.istore_n 2, 1) := by decide +kernel
theorem dX5_begin_27 : decode cX5_begin 27 = .ok (.iload_n 2, 1) := by decide +kernel
theorem dX5_begin_28 : decode cX5_begin 28 = .ok (.bipush 6, 2) := by decide +kernel
theorem dX5_begin_30 : decode cX5_begin 30 = .ok (.if_icmp .ge 24, 3) := by decide +kernel
theorem dX5_begin_33 : decode cX5_begin 33 = .ok (.iload_n 2, 1) := by decide +kernel
theorem dX5_begin_34 : decode cX5_begin 34 = .ok (.aload_n 1, 1) := by decide +kernel
theorem dX5_begin_35 : decode cX5_begin 35 = .ok (.arraylength, 1) := by decide +kernel
theorem dX5_begin_36 : decode cX5_begin 36 = .ok (.if_icmp .ge 18, 3) := by decide +kernel
theorem dX5_begin_39 : decode cX5_begin 39 = .ok (.aload_n 0, 1) := by decide +kernel
theorem dX5_begin_40 : decode cX5_begin 40 = .ok (.getfield 9, 3) := by decide +kernel
theorem dX5_begin_43 : decode cX5_begin 43 = .ok (.iload_n 2, 1) := by decide +kernel
theorem dX5_begin_44 : decode cX5_begin 44 = .ok (.aload_n 1, 1) := by decide +kernel
theorem dX5_begin_45 : decode cX5_begin 45 = .ok (.iload_n 2, 1) := by decide +kernel
theorem dX5_begin_46 : decode cX5_begin 46 = .ok (.iaload, 1) := by decide +kernel
theorem dX5_begin_47 : decode cX5_begin 47 = .ok (.iastore, 1) := by decide +kernel
theorem dX5_begin_48 : decode cX5_begin 48 = .ok (.iinc 2 1, 3) := by decide +kernel
theorem dX5_begin_51 : decode cX5_begin 51 = .ok (.goto (-24), 3) := by decide +kernel
theorem dX5_begin_54 : decode cX5_begin 54 = .ok (.aload_n 0, 1) := by decide +kernel
theorem dX5_begin_55 : decode cX5_begin 55 = .ok (.iconst 0, 1) := by decide +kernel
theorem dX5_begin_56 : decode cX5_begin 56 = .ok (.invokevirtual 41, 3) := by decide +kernel
theorem dX5_begin_59 : decode cX5_begin 59 = .ok (.return_, 1) := by decide +kernel
theorem dX5_has_0 : decode cX5_has 0 = .ok (.iload_n 1, 1) := by decide +kernel
theorem dX5_has_1 : decode cX5_has 1 = .ok (.ifCond .lt 15, 3) := by decide +kernel
theorem dX5_has_4 : decode cX5_has 4 = .ok (.iload_n 1, 1) := by decide +kernel
theorem dX5_has_5 : decode cX5_has 5 = .ok (.aload_n 0, 1) := by decide +kernel
theorem dX5_has_6 : decode cX5_has 6 = .ok (.getfield 31, 3) := by decide +kernel
theorem dX5_has_9 : decode cX5_has 9 = .ok (.if_icmp .ge 7, 3) := by decide +kernel
theorem dX5_has_12 : decode cX5_has 12 = .ok (.iconst 1, 1) := by decide +kernel
theorem dX5_has_13 : decode cX5_has 13 = .ok (.goto 4, 3) := by decide +kernel
theorem dX5_has_16 : decode cX5_has 16 = .ok (.iconst 0, 1) := by decide +kernel
theorem dX5_has_17 : decode cX5_has 17 = .ok (.ireturn, 1) := by decide +kernel
set_option maxRecDepth 20000 in
theorem ggX5_register_X5_has : GoodIn wsX5_register wsX5_has := goodIn_r _ [6, 7, 11, 12, 13, 14, 15, 16, 17, 18, 19] rfl rfl
set_option maxRecDepth 20000 in
theorem gX5_register_X5_has : GoodIn wsX5_register (wsV RX5 45 RX5 yX5_has wsX5_has) := goodIn_app (goodIn_of _ (by decide +kernel)) ggX5_register_X5_has
set_option maxRecDepth 20000 in
theorem ggX5_register_X7_isRegister : GoodIn wsX5_register wsX7_isRegister := goodIn_r _ [10] rfl rfl
set_option maxRecDepth 20000 in
theorem gX5_register_X7_isRegister_n49 : GoodIn wsX5_register (wsX7_isRegister) := ggX5_register_X7_isRegister
theorem dX5_register_0 : decode cX5_register 0 = .ok (.aload_n 0, 1) := by decide +kernel
theorem dX5_register_1 : decode cX5_register 1 = .ok (.iload_n 1, 1) := by decide +kernel
theorem dX5_register_2 : decode cX5_register 2 = .ok (.invokevirtual 45, 3) := by decide +kernel
theorem dX5_register_5 : decode cX5_register 5 = .ok (.ifCond .eq 24, 3) := by decide +kernel
theorem dX5_register_8 : decode cX5_register 8 = .ok (.iload_n 2, 1) := by decide +kernel
theorem dX5_register_9 : decode cX5_register 9 = .ok (.invokestatic 49, 3) := by decide +kernel
theorem dX5_register_12 : decode cX5_register 12 = .ok (.ifCond .eq 17, 3) := by decide +kernel
theorem dX5_register_15 : decode cX5_register 15 = .ok (.aload_n 0, 1) := by decide +kernel
theorem dX5_register_16 : decode cX5_register 16 = .ok (.getfield 9, 3) := by decide +kernel
theorem dX5_register_19 : decode cX5_register 19 = .ok (.iload_n 1, 1) := by decide +kernel
theorem dX5_register_20 : decode cX5_register 20 = .ok (.bipush 6, 2) := by decide +kernel
theorem dX5_register_22 : decode cX5_register 22 = .ok (.imul, 1) := by decide +kernel
theorem dX5_register_23 : decode cX5_register 23 = .ok (.iload_n 2, 1) := by decide +kernel
theorem dX5_register_24 : decode cX5_register 24 = .ok (.iadd, 1) := by decide +kernel
theorem dX5_register_25 : decode cX5_register 25 = .ok (.iaload, 1) := by decide +kernel
theorem dX5_register_26 : decode cX5_register 26 = .ok (.goto 4, 3) := by decide +kernel
theorem dX5_register_29 : decode cX5_register 29 = .ok (.iconst 0, 1) := by decide +kernel
theorem dX5_register_30 : decode cX5_register 30 = .ok (.ireturn, 1) := by decide +kernel
set_option maxRecDepth 20000 in
theorem ggX5_lookUp_X5_has : GoodIn wsX5_lookUp wsX5_has := goodIn_r _ [9, 10, 38, 39, 40, 41, 42, 43, 44, 45, 46] rfl rfl
set_option maxRecDepth 20000 in
theorem gX5_lookUp_X5_has : GoodIn wsX5_lookUp (wsV RX5 45 RX5 yX5_has wsX5_has) := goodIn_app (goodIn_of _ (by decide +kernel)) ggX5_lookUp_X5_has
set_option maxRecDepth 20000 in
theorem ggX5_lookUp_X5_register : GoodIn wsX5_lookUp wsX5_register := goodIn_r _ [14, 15, 5, 6, 7, 8, 9, 10, 16, 17, 18, 38, 39, 40, 41, 42, 43, 44, 45, 46] rfl rfl
set_option maxRecDepth 20000 in
theorem gX5_lookUp_X5_register : GoodIn wsX5_lookUp (wsV RX5 52 RX5 yX5_register wsX5_register) := goodIn_app (goodIn_of _ (by decide +kernel)) ggX5_lookUp_X5_register
set_option maxRecDepth 20000 in
theorem ggX5_lookUp_X6_ownerOf : GoodIn wsX5_lookUp wsX6_ownerOf := goodIn_r _ [23, 24, 25, 26, 27, 22, 28, 29, 30, 31, 32, 33, 34, 35, 36, 47, 48, 49, 50, 51, 52, 53, 54, 55] rfl rfl
set_option maxRecDepth 20000 in
theorem gX5_lookUp_X6_ownerOf : GoodIn wsX5_lookUp (wsV RX5 56 RX6 yX6_ownerOf wsX6_ownerOf) := goodIn_app (goodIn_of _ (by decide +kernel)) ggX5_lookUp_X6_ownerOf
set_option maxRecDepth 20000 in
theorem ggX5_lookUp_X3_at : GoodIn wsX5_lookUp wsX3_at := goodIn_r _ [33, 34, 35, 36, 53, 54, 55] rfl rfl
set_option maxRecDepth 20000 in
theorem gX5_lookUp_X3_at : GoodIn wsX5_lookUp (wsV RX5 66 RX3 yX3_at wsX3_at) := goodIn_app (goodIn_of _ (by decide +kernel)) ggX5_lookUp_X3_at
theorem dX5_lookUp_0 : decode cX5_lookUp 0 = .ok (.aload_n 0, 1) := by decide +kernel
theorem dX5_lookUp_1 : decode cX5_lookUp 1 = .ok (.iload_n 1, 1) := by decide +kernel
theorem dX5_lookUp_2 : decode cX5_lookUp 2 = .ok (.invokevirtual 45, 3) := by decide +kernel
theorem dX5_lookUp_5 : decode cX5_lookUp 5 = .ok (.ifCond .ne 4, 3) := by decide +kernel
theorem dX5_lookUp_8 : decode cX5_lookUp 8 = .ok (.return_, 1) := by decide +kernel
theorem dX5_lookUp_9 : decode cX5_lookUp 9 = .ok (.aload_n 0, 1) := by decide +kernel
theorem dX5_lookUp_10 : decode cX5_lookUp 10 = .ok (.getfield 21, 3) := by decide +kernel
theorem dX5_lookUp_13 : decode cX5_lookUp 13 = .ok (.iload_n 1, 1) := by decide +kernel
theorem dX5_lookUp_14 : decode cX5_lookUp 14 = .ok (.iaload, 1) := by decide +kernel
theorem dX5_lookUp_15 : decode cX5_lookUp 15 = .ok (.ifCond .eq 20, 3) := by decide +kernel
theorem dX5_lookUp_18 : decode cX5_lookUp 18 = .ok (.aload_n 0, 1) := by decide +kernel
theorem dX5_lookUp_19 : decode cX5_lookUp 19 = .ok (.getfield 21, 3) := by decide +kernel
theorem dX5_lookUp_22 : decode cX5_lookUp 22 = .ok (.iload_n 1, 1) := by decide +kernel
theorem dX5_lookUp_23 : decode cX5_lookUp 23 = .ok (.iaload, 1) := by decide +kernel
theorem dX5_lookUp_24 : decode cX5_lookUp 24 = .ok (.iconst 1, 1) := by decide +kernel
theorem dX5_lookUp_25 : decode cX5_lookUp 25 = .ok (.if_icmp .ne 14, 3) := by decide +kernel
theorem dX5_lookUp_28 : decode cX5_lookUp 28 = .ok (.aload_n 0, 1) := by decide +kernel
theorem dX5_lookUp_29 : decode cX5_lookUp 29 = .ok (.getfield 28, 3) := by decide +kernel
theorem dX5_lookUp_32 : decode cX5_lookUp 32 = .ok (.ifCond .eq 7, 3) := by decide +kernel
theorem dX5_lookUp_35 : decode cX5_lookUp 35 = .ok (.iconst 1, 1) := by decide +kernel
theorem dX5_lookUp_36 : decode cX5_lookUp 36 = .ok (.goto 4, 3) := by decide +kernel
theorem dX5_lookUp_39 : decode cX5_lookUp 39 = .ok (.iconst 0, 1) := by decide +kernel
theorem dX5_lookUp_40 : decode cX5_lookUp 40 = .ok (.istore_n 3, 1) := by decide +kernel
theorem dX5_lookUp_41 : decode cX5_lookUp 41 = .ok (.aload_n 0, 1) := by decide +kernel
theorem dX5_lookUp_42 : decode cX5_lookUp 42 = .ok (.getfield 18, 3) := by decide +kernel
theorem dX5_lookUp_45 : decode cX5_lookUp 45 = .ok (.iload_n 1, 1) := by decide +kernel
theorem dX5_lookUp_46 : decode cX5_lookUp 46 = .ok (.iload_n 3, 1) := by decide +kernel
theorem dX5_lookUp_47 : decode cX5_lookUp 47 = .ok (.ifCond .eq 12, 3) := by decide +kernel
theorem dX5_lookUp_50 : decode cX5_lookUp 50 = .ok (.aload_n 0, 1) := by decide +kernel
theorem dX5_lookUp_51 : decode cX5_lookUp 51 = .ok (.iload_n 1, 1) := by decide +kernel
theorem dX5_lookUp_52 : decode cX5_lookUp 52 = .ok (.iconst 5, 1) := by decide +kernel
theorem dX5_lookUp_53 : decode cX5_lookUp 53 = .ok (.invokevirtual 52, 3) := by decide +kernel
theorem dX5_lookUp_56 : decode cX5_lookUp 56 = .ok (.goto 11, 3) := by decide +kernel
theorem dX5_lookUp_59 : decode cX5_lookUp 59 = .ok (.aload_n 0, 1) := by decide +kernel
theorem dX5_lookUp_60 : decode cX5_lookUp 60 = .ok (.iload_n 1, 1) := by decide +kernel
theorem dX5_lookUp_61 : decode cX5_lookUp 61 = .ok (.iconst 5, 1) := by decide +kernel
theorem dX5_lookUp_62 : decode cX5_lookUp 62 = .ok (.invokevirtual 52, 3) := by decide +kernel
theorem dX5_lookUp_65 : decode cX5_lookUp 65 = .ok (.iconst 1, 1) := by decide +kernel
theorem dX5_lookUp_66 : decode cX5_lookUp 66 = .ok (.isub, 1) := by decide +kernel
theorem dX5_lookUp_67 : decode cX5_lookUp 67 = .ok (.iastore, 1) := by decide +kernel
theorem dX5_lookUp_68 : decode cX5_lookUp 68 = .ok (.aload_n 0, 1) := by decide +kernel
theorem dX5_lookUp_69 : decode cX5_lookUp 69 = .ok (.getfield 15, 3) := by decide +kernel
theorem dX5_lookUp_72 : decode cX5_lookUp 72 = .ok (.iload_n 1, 1) := by decide +kernel
theorem dX5_lookUp_73 : decode cX5_lookUp 73 = .ok (.aload_n 2, 1) := by decide +kernel
theorem dX5_lookUp_74 : decode cX5_lookUp 74 = .ok (.aload_n 0, 1) := by decide +kernel
theorem dX5_lookUp_75 : decode cX5_lookUp 75 = .ok (.getfield 18, 3) := by decide +kernel
theorem dX5_lookUp_78 : decode cX5_lookUp 78 = .ok (.iload_n 1, 1) := by decide +kernel
theorem dX5_lookUp_79 : decode cX5_lookUp 79 = .ok (.iaload, 1) := by decide +kernel
theorem dX5_lookUp_80 : decode cX5_lookUp 80 = .ok (.invokevirtual 56, 3) := by decide +kernel
theorem dX5_lookUp_83 : decode cX5_lookUp 83 = .ok (.iastore, 1) := by decide +kernel
theorem dX5_lookUp_84 : decode cX5_lookUp 84 = .ok (.aload_n 0, 1) := by decide +kernel
theorem dX5_lookUp_85 : decode cX5_lookUp 85 = .ok (.aload_n 2, 1) := by decide +kernel
theorem dX5_lookUp_86 : decode cX5_lookUp 86 = .ok (.getfield 62, 3) := by decide +kernel
theorem dX5_lookUp_89 : decode cX5_lookUp 89 = .ok (.aload_n 0, 1) := by decide +kernel
theorem dX5_lookUp_90 : decode cX5_lookUp 90 = .ok (.getfield 15, 3) := by decide +kernel
theorem dX5_lookUp_93 : decode cX5_lookUp 93 = .ok (.iload_n 1, 1) := by decide +kernel
theorem dX5_lookUp_94 : decode cX5_lookUp 94 = .ok (.iaload, 1) := by decide +kernel
theorem dX5_lookUp_95 : decode cX5_lookUp 95 = .ok (.iconst 2, 1) := by decide +kernel
theorem dX5_lookUp_96 : decode cX5_lookUp 96 = .ok (.invokevirtual 66, 3) := by decide +kernel
theorem dX5_lookUp_99 : decode cX5_lookUp 99 = .ok (.iconst 1, 1) := by decide +kernel
theorem dX5_lookUp_100 : decode cX5_lookUp 100 = .ok (.if_icmp .ne 7, 3) := by decide +kernel
theorem dX5_lookUp_103 : decode cX5_lookUp 103 = .ok (.iconst 1, 1) := by decide +kernel
theorem dX5_lookUp_104 : decode cX5_lookUp 104 = .ok (.goto 4, 3) := by decide +kernel
theorem dX5_lookUp_107 : decode cX5_lookUp 107 = .ok (.iconst 0, 1) := by decide +kernel
theorem dX5_lookUp_108 : decode cX5_lookUp 108 = .ok (.putfield 28, 3) := by decide +kernel
theorem dX5_lookUp_111 : decode cX5_lookUp 111 = .ok (.return_, 1) := by decide +kernel
set_option maxRecDepth 20000 in
theorem ggX5_topOf_X1_base : GoodIn wsX5_topOf wsX1_base := goodIn_r _ [5, 6, 25, 26, 27] rfl rfl
set_option maxRecDepth 20000 in
theorem gX5_topOf_X1_base : GoodIn wsX5_topOf (wsV RX5 71 RX1 yX1_base wsX1_base) := goodIn_app (goodIn_of _ (by decide +kernel)) ggX5_topOf_X1_base
set_option maxRecDepth 20000 in
theorem ggX5_topOf_X5_register : GoodIn wsX5_topOf wsX5_register := goodIn_r _ [11, 12, 13, 14, 15, 10, 16, 17, 18, 19, 20, 28, 29, 30, 31, 32, 33, 34, 35, 36] rfl rfl
set_option maxRecDepth 20000 in
theorem gX5_topOf_X5_register : GoodIn wsX5_topOf (wsV RX5 52 RX5 yX5_register wsX5_register) := goodIn_app (goodIn_of _ (by decide +kernel)) ggX5_topOf_X5_register
set_option maxRecDepth 20000 in
theorem ggX5_topOf_X1_off : GoodIn wsX5_topOf wsX1_off := goodIn_r _ [24, 6, 25, 26, 27] rfl rfl
set_option maxRecDepth 20000 in
theorem gX5_topOf_X1_off : GoodIn wsX5_topOf (wsV RX5 77 RX1 yX1_off wsX1_off) := goodIn_app (goodIn_of _ (by decide +kernel)) ggX5_topOf_X1_off
theorem dX5_topOf_0 : decode cX5_topOf 0 = .ok (.aload_n 0, 1) := by decide +kernel
theorem dX5_topOf_1 : decode cX5_topOf 1 = .ok (.iload_n 1, 1) := by decide +kernel
theorem dX5_topOf_2 : decode cX5_topOf 2 = .ok (.aload_n 2, 1) := by decide +kernel
theorem dX5_topOf_3 : decode cX5_topOf 3 = .ok (.invokevirtual 71, 3) := by decide +kernel
theorem dX5_topOf_6 : decode cX5_topOf 6 = .ok (.invokevirtual 52, 3) := by decide +kernel
theorem dX5_topOf_9 : decode cX5_topOf 9 = .ok (.aload_n 2, 1) := by decide +kernel
theorem dX5_topOf_10 : decode cX5_topOf 10 = .ok (.invokevirtual 77, 3) := by decide +kernel
theorem dX5_topOf_13 : decode cX5_topOf 13 = .ok (.iadd, 1) := by decide +kernel
theorem dX5_topOf_14 : decode cX5_topOf 14 = .ok (.ireturn, 1) := by decide +kernel
set_option maxRecDepth 20000 in
theorem ggX5_addGuessed_X5_register : GoodIn wsX5_addGuessed wsX5_register := goodIn_r _ [8, 2, 9, 10, 11, 7, 12, 1, 13, 14, 15, 21, 22, 23, 24, 25, 26, 27, 28, 29] rfl rfl
set_option maxRecDepth 20000 in
theorem gX5_addGuessed_X5_register : GoodIn wsX5_addGuessed (wsV RX5 52 RX5 yX5_register wsX5_register) := goodIn_app (goodIn_of _ (by decide +kernel)) ggX5_addGuessed_X5_register
set_option maxRecDepth 20000 in
theorem ggX5_addGuessed_X5_add : GoodIn wsX5_addGuessed wsX5_add := goodIn_r _ [19, 1, 20, 21, 22, 23, 24, 25, 26, 27, 28, 29] rfl rfl
set_option maxRecDepth 20000 in
theorem gX5_addGuessed_X5_add : GoodIn wsX5_addGuessed (wsV RX5 41 RX5 yX5_add wsX5_add) := goodIn_app (goodIn_of _ (by decide +kernel)) ggX5_addGuessed_X5_add
theorem dX5_addGuessed_0 : decode cX5_addGuessed 0 = .ok (.aload_n 0, 1) := by decide +kernel
theorem dX5_addGuessed_1 : decode cX5_addGuessed 1 = .ok (.getfield 31, 3) := by decide +kernel
theorem dX5_addGuessed_4 : decode cX5_addGuessed 4 = .ok (.bipush 20, 2) := by decide +kernel
theorem dX5_addGuessed_6 : decode cX5_addGuessed 6 = .ok (.if_icmp .lt 4, 3) := by decide +kernel
theorem dX5_addGuessed_9 : decode cX5_addGuessed 9 = .ok (.return_, 1) := by decide +kernel
theorem dX5_addGuessed_10 : decode cX5_addGuessed 10 = .ok (.aload_n 0, 1) := by decide +kernel
theorem dX5_addGuessed_11 : decode cX5_addGuessed 11 = .ok (.getfield 31, 3) := by decide +kernel
theorem dX5_addGuessed_14 : decode cX5_addGuessed 14 = .ok (.bipush 6, 2) := by decide +kernel
theorem dX5_addGuessed_16 : decode cX5_addGuessed 16 = .ok (.imul, 1) := by decide +kernel
theorem dX5_addGuessed_17 : decode cX5_addGuessed 17 = .ok (.istore 4, 2) := by decide +kernel
theorem dX5_addGuessed_19 : decode cX5_addGuessed 19 = .ok (.iconst 0, 1) := by decide +kernel
theorem dX5_addGuessed_20 : decode cX5_addGuessed 20 = .ok (.istore 5, 2) := by decide +kernel
theorem dX5_addGuessed_22 : decode cX5_addGuessed 22 = .ok (.iload 5, 2) := by decide +kernel
theorem dX5_addGuessed_24 : decode cX5_addGuessed 24 = .ok (.bipush 6, 2) := by decide +kernel
theorem dX5_addGuessed_26 : decode cX5_addGuessed 26 = .ok (.if_icmp .ge 26, 3) := by decide +kernel
theorem dX5_addGuessed_29 : decode cX5_addGuessed 29 = .ok (.aload_n 0, 1) := by decide +kernel
theorem dX5_addGuessed_30 : decode cX5_addGuessed 30 = .ok (.getfield 9, 3) := by decide +kernel
theorem dX5_addGuessed_33 : decode cX5_addGuessed 33 = .ok (.iload 4, 2) := by decide +kernel
theorem dX5_addGuessed_35 : decode cX5_addGuessed 35 = .ok (.iload 5, 2) := by decide +kernel
theorem dX5_addGuessed_37 : decode cX5_addGuessed 37 = .ok (.iadd, 1) := by decide +kernel
theorem dX5_addGuessed_38 : decode cX5_addGuessed 38 = .ok (.aload_n 0, 1) := by decide +kernel
theorem dX5_addGuessed_39 : decode cX5_addGuessed 39 = .ok (.iload_n 1, 1) := by decide +kernel
theorem dX5_addGuessed_40 : decode cX5_addGuessed 40 = .ok (.iload 5, 2) := by decide +kernel
theorem dX5_addGuessed_42 : decode cX5_addGuessed 42 = .ok (.invokevirtual 52, 3) := by decide +kernel
theorem dX5_addGuessed_45 : decode cX5_addGuessed 45 = .ok (.iastore, 1) := by decide +kernel
theorem dX5_addGuessed_46 : decode cX5_addGuessed 46 = .ok (.iinc 5 1, 3) := by decide +kernel
theorem dX5_addGuessed_49 : decode cX5_addGuessed 49 = .ok (.goto (-27), 3) := by decide +kernel
theorem dX5_addGuessed_52 : decode cX5_addGuessed 52 = .ok (.aload_n 0, 1) := by decide +kernel
theorem dX5_addGuessed_53 : decode cX5_addGuessed 53 = .ok (.getfield 9, 3) := by decide +kernel
theorem dX5_addGuessed_56 : decode cX5_addGuessed 56 = .ok (.iload 4, 2) := by decide +kernel
theorem dX5_addGuessed_58 : decode cX5_addGuessed 58 = .ok (.iconst 4, 1) := by decide +kernel
theorem dX5_addGuessed_59 : decode cX5_addGuessed 59 = .ok (.iadd, 1) := by decide +kernel
theorem dX5_addGuessed_60 : decode cX5_addGuessed 60 = .ok (.iload_n 3, 1) := by decide +kernel
theorem dX5_addGuessed_61 : decode cX5_addGuessed 61 = .ok (.iconst 1, 1) := by decide +kernel
theorem dX5_addGuessed_62 : decode cX5_addGuessed 62 = .ok (.iadd, 1) := by decide +kernel
theorem dX5_addGuessed_63 : decode cX5_addGuessed 63 = .ok (.iastore, 1) := by decide +kernel
theorem dX5_addGuessed_64 : decode cX5_addGuessed 64 = .ok (.aload_n 0, 1) := by decide +kernel
theorem dX5_addGuessed_65 : decode cX5_addGuessed 65 = .ok (.getfield 9, 3) := by decide +kernel
theorem dX5_addGuessed_68 : decode cX5_addGuessed 68 = .ok (.iload 4, 2) := by decide +kernel
theorem dX5_addGuessed_70 : decode cX5_addGuessed 70 = .ok (.iconst 5, 1) := by decide +kernel
theorem dX5_addGuessed_71 : decode cX5_addGuessed 71 = .ok (.iadd, 1) := by decide +kernel
theorem dX5_addGuessed_72 : decode cX5_addGuessed 72 = .ok (.iload_n 2, 1) := by decide +kernel
theorem dX5_addGuessed_73 : decode cX5_addGuessed 73 = .ok (.iastore, 1) := by decide +kernel
theorem dX5_addGuessed_74 : decode cX5_addGuessed 74 = .ok (.aload_n 0, 1) := by decide +kernel
theorem dX5_addGuessed_75 : decode cX5_addGuessed 75 = .ok (.dup, 1) := by decide +kernel
theorem dX5_addGuessed_76 : decode cX5_addGuessed 76 = .ok (.getfield 38, 3) := by decide +kernel
theorem dX5_addGuessed_79 : decode cX5_addGuessed 79 = .ok (.iconst 1, 1) := by decide +kernel
theorem dX5_addGuessed_80 : decode cX5_addGuessed 80 = .ok (.iadd, 1) := by decide +kernel
theorem dX5_addGuessed_81 : decode cX5_addGuessed 81 = .ok (.putfield 38, 3) := by decide +kernel
theorem dX5_addGuessed_84 : decode cX5_addGuessed 84 = .ok (.aload_n 0, 1) := by decide +kernel
theorem dX5_addGuessed_85 : decode cX5_addGuessed 85 = .ok (.iconst 2, 1) := by decide +kernel
theorem dX5_addGuessed_86 : decode cX5_addGuessed 86 = .ok (.invokevirtual 41, 3) := by decide +kernel
theorem dX5_addGuessed_89 : decode cX5_addGuessed 89 = .ok (.return_, 1) := by decide +kernel
set_option maxRecDepth 20000 in
theorem ggX5_addByRow_X5_topOf : GoodIn wsX5_addByRow wsX5_topOf := goodIn_r _ [7, 8, 9, 10, 11, 12, 13, 14, 15, 16, 6, 17, 2, 18, 19, 20, 21, 1, 22, 23, 24, 25, 26, 27, 28, 55, 56, 57, 46, 47, 48, 49, 50, 51, 52, 53, 54] rfl rfl
set_option maxRecDepth 20000 in
theorem gX5_addByRow_X5_topOf : GoodIn wsX5_addByRow (wsV RX5 80 RX5 yX5_topOf wsX5_topOf) := goodIn_app (goodIn_of _ (by decide +kernel)) ggX5_addByRow_X5_topOf
set_option maxRecDepth 20000 in
theorem ggX5_addByRow_X5_callers : GoodIn wsX5_addByRow wsX5_callers := goodIn_r _ [32, 33, 34, 35, 11, 36, 13, 22, 23, 24, 37, 38, 39, 40, 14, 15, 16, 6, 17, 2, 18, 19, 20, 21, 1, 3, 4, 5, 7, 8, 9, 10, 12, 25, 26, 27, 28, 55, 56, 57, 46, 47, 48, 49, 50, 51, 52, 53, 54] rfl rfl
set_option maxRecDepth 20000 in
theorem gX5_addByRow_X5_callers : GoodIn wsX5_addByRow (wsV RX5 84 RX5 yX5_callers wsX5_callers) := goodIn_app (goodIn_of _ (by decide +kernel)) ggX5_addByRow_X5_callers
set_option maxRecDepth 20000 in
theorem ggX5_addByRow_X5_add : GoodIn wsX5_addByRow wsX5_add := goodIn_r _ [44, 1, 45, 46, 47, 48, 49, 50, 51, 52, 53, 54] rfl rfl
set_option maxRecDepth 20000 in
theorem gX5_addByRow_X5_add : GoodIn wsX5_addByRow (wsV RX5 41 RX5 yX5_add wsX5_add) := goodIn_app (goodIn_of _ (by decide +kernel)) ggX5_addByRow_X5_add
theorem dX5_addByRow_0 : decode cX5_addByRow 0 = .ok (.aload_n 0, 1) := by decide +kernel
theorem dX5_addByRow_1 : decode cX5_addByRow 1 = .ok (.getfield 31, 3) := by decide +kernel
theorem dX5_addByRow_4 : decode cX5_addByRow 4 = .ok (.bipush 20, 2) := by decide +kernel
theorem dX5_addByRow_6 : decode cX5_addByRow 6 = .ok (.if_icmp .lt 4, 3) := by decide +kernel
theorem dX5_addByRow_9 : decode cX5_addByRow 9 = .ok (.return_, 1) := by decide +kernel
theorem dX5_addByRow_10 : decode cX5_addByRow 10 = .ok (.aload_n 0, 1) := by decide +kernel
theorem dX5_addByRow_11 : decode cX5_addByRow 11 = .ok (.getfield 31, 3) := by decide +kernel
theorem dX5_addByRow_14 : decode cX5_addByRow 14 = .ok (.bipush 6, 2) := by decide +kernel
theorem dX5_addByRow_16 : decode cX5_addByRow 16 = .ok (.imul, 1) := by decide +kernel
theorem dX5_addByRow_17 : decode cX5_addByRow 17 = .ok (.istore 4, 2) := by decide +kernel
theorem dX5_addByRow_19 : decode cX5_addByRow 19 = .ok (.aload_n 0, 1) := by decide +kernel
theorem dX5_addByRow_20 : decode cX5_addByRow 20 = .ok (.iload_n 1, 1) := by decide +kernel
theorem dX5_addByRow_21 : decode cX5_addByRow 21 = .ok (.aload_n 2, 1) := by decide +kernel
theorem dX5_addByRow_22 : decode cX5_addByRow 22 = .ok (.invokevirtual 80, 3) := by decide +kernel
theorem dX5_addByRow_25 : decode cX5_addByRow 25 = .ok (.istore 5, 2) := by decide +kernel
theorem dX5_addByRow_27 : decode cX5_addByRow 27 = .ok (.iconst 0, 1) := by decide +kernel
theorem dX5_addByRow_28 : decode cX5_addByRow 28 = .ok (.istore 6, 2) := by decide +kernel
theorem dX5_addByRow_30 : decode cX5_addByRow 30 = .ok (.iload 6, 2) := by decide +kernel
theorem dX5_addByRow_32 : decode cX5_addByRow 32 = .ok (.bipush 6, 2) := by decide +kernel
theorem dX5_addByRow_34 : decode cX5_addByRow 34 = .ok (.if_icmp .ge 28, 3) := by decide +kernel
theorem dX5_addByRow_37 : decode cX5_addByRow 37 = .ok (.aload_n 0, 1) := by decide +kernel
theorem dX5_addByRow_38 : decode cX5_addByRow 38 = .ok (.getfield 9, 3) := by decide +kernel
theorem dX5_addByRow_41 : decode cX5_addByRow 41 = .ok (.iload 4, 2) := by decide +kernel
theorem dX5_addByRow_43 : decode cX5_addByRow 43 = .ok (.iload 6, 2) := by decide +kernel
theorem dX5_addByRow_45 : decode cX5_addByRow 45 = .ok (.iadd, 1) := by decide +kernel
theorem dX5_addByRow_46 : decode cX5_addByRow 46 = .ok (.aload_n 0, 1) := by decide +kernel
theorem dX5_addByRow_47 : decode cX5_addByRow 47 = .ok (.iload_n 1, 1) := by decide +kernel
theorem dX5_addByRow_48 : decode cX5_addByRow 48 = .ok (.iload 6, 2) := by decide +kernel
theorem dX5_addByRow_50 : decode cX5_addByRow 50 = .ok (.aload_n 2, 1) := by decide +kernel
theorem dX5_addByRow_51 : decode cX5_addByRow 51 = .ok (.aload_n 3, 1) := by decide +kernel
theorem dX5_addByRow_52 : decode cX5_addByRow 52 = .ok (.invokevirtual 84, 3) := by decide +kernel
theorem dX5_addByRow_55 : decode cX5_addByRow 55 = .ok (.iastore, 1) := by decide +kernel
theorem dX5_addByRow_56 : decode cX5_addByRow 56 = .ok (.iinc 6 1, 3) := by decide +kernel
theorem dX5_addByRow_59 : decode cX5_addByRow 59 = .ok (.goto (-29), 3) := by decide +kernel
theorem dX5_addByRow_62 : decode cX5_addByRow 62 = .ok (.aload_n 0, 1) := by decide +kernel
theorem dX5_addByRow_63 : decode cX5_addByRow 63 = .ok (.getfield 9, 3) := by decide +kernel
theorem dX5_addByRow_66 : decode cX5_addByRow 66 = .ok (.iload 4, 2) := by decide +kernel
theorem dX5_addByRow_68 : decode cX5_addByRow 68 = .ok (.iconst 4, 1) := by decide +kernel
theorem dX5_addByRow_69 : decode cX5_addByRow 69 = .ok (.iadd, 1) := by decide +kernel
theorem dX5_addByRow_70 : decode cX5_addByRow 70 = .ok (.iload 5, 2) := by decide +kernel
theorem dX5_addByRow_72 : decode cX5_addByRow 72 = .ok (.iastore, 1) := by decide +kernel
theorem dX5_addByRow_73 : decode cX5_addByRow 73 = .ok (.aload_n 0, 1) := by decide +kernel
theorem dX5_addByRow_74 : decode cX5_addByRow 74 = .ok (.iconst 1, 1) := by decide +kernel
theorem dX5_addByRow_75 : decode cX5_addByRow 75 = .ok (.invokevirtual 41, 3) := by decide +kernel
theorem dX5_addByRow_78 : decode cX5_addByRow 78 = .ok (.return_, 1) := by decide +kernel
set_option maxRecDepth 20000 in
theorem ggX5_callers_X1_which : GoodIn wsX5_callers wsX1_which := goodIn_r _ [5, 6, 7, 8, 9, 37, 38, 39] rfl rfl
set_option maxRecDepth 20000 in
theorem gX5_callers_X1_which : GoodIn wsX5_callers (wsV RX5 88 RX1 yX1_which wsX1_which) := goodIn_app (goodIn_of _ (by decide +kernel)) ggX5_callers_X1_which
set_option maxRecDepth 20000 in
theorem ggX5_callers_X1_number : GoodIn wsX5_callers wsX1_number := goodIn_r _ [13, 6, 7, 8, 9, 37, 38, 39] rfl rfl
set_option maxRecDepth 20000 in
theorem gX5_callers_X1_number : GoodIn wsX5_callers (wsV RX5 91 RX1 yX1_number wsX1_number) := goodIn_app (goodIn_of _ (by decide +kernel)) ggX5_callers_X1_number
set_option maxRecDepth 20000 in
theorem ggX5_callers_X5_register : GoodIn wsX5_callers wsX5_register := goodIn_r _ [18, 19, 20, 21, 22, 17, 23, 24, 7, 8, 9, 40, 41, 42, 43, 44, 45, 46, 47, 48] rfl rfl
set_option maxRecDepth 20000 in
theorem gX5_callers_X5_register : GoodIn wsX5_callers (wsV RX5 52 RX5 yX5_register wsX5_register) := goodIn_app (goodIn_of _ (by decide +kernel)) ggX5_callers_X5_register
set_option maxRecDepth 20000 in
theorem ggX5_callers_X5_topOf : GoodIn wsX5_callers wsX5_topOf := goodIn_r _ [28, 29, 30, 31, 4, 32, 6, 14, 15, 16, 17, 18, 19, 20, 21, 22, 23, 24, 7, 8, 9, 33, 34, 35, 36, 37, 38, 39, 40, 41, 42, 43, 44, 45, 46, 47, 48] rfl rfl
set_option maxRecDepth 20000 in
theorem gX5_callers_X5_topOf : GoodIn wsX5_callers (wsV RX5 80 RX5 yX5_topOf wsX5_topOf) := goodIn_app (goodIn_of _ (by decide +kernel)) ggX5_callers_X5_topOf
theorem dX5_callers_0 : decode cX5_callers 0 = .ok (.aload_n 3, 1) := by decide +kernel
theorem dX5_callers_1 : decode cX5_callers 1 = .ok (.iload_n 2, 1) := by decide +kernel
theorem dX5_callers_2 : decode cX5_callers 2 = .ok (.invokevirtual 88, 3) := by decide +kernel
theorem dX5_callers_5 : decode cX5_callers 5 = .ok (.iconst 2, 1) := by decide +kernel
theorem dX5_callers_6 : decode cX5_callers 6 = .ok (.if_icmp .ne 14, 3) := by decide +kernel
theorem dX5_callers_9 : decode cX5_callers 9 = .ok (.aload_n 0, 1) := by decide +kernel
theorem dX5_callers_10 : decode cX5_callers 10 = .ok (.iload_n 1, 1) := by decide +kernel
theorem dX5_callers_11 : decode cX5_callers 11 = .ok (.aload_n 3, 1) := by decide +kernel
theorem dX5_callers_12 : decode cX5_callers 12 = .ok (.iload_n 2, 1) := by decide +kernel
theorem dX5_callers_13 : decode cX5_callers 13 = .ok (.invokevirtual 91, 3) := by decide +kernel
theorem dX5_callers_16 : decode cX5_callers 16 = .ok (.invokevirtual 52, 3) := by decide +kernel
theorem dX5_callers_19 : decode cX5_callers 19 = .ok (.ireturn, 1) := by decide +kernel
theorem dX5_callers_20 : decode cX5_callers 20 = .ok (.aload_n 3, 1) := by decide +kernel
theorem dX5_callers_21 : decode cX5_callers 21 = .ok (.iload_n 2, 1) := by decide +kernel
theorem dX5_callers_22 : decode cX5_callers 22 = .ok (.invokevirtual 88, 3) := by decide +kernel
theorem dX5_callers_25 : decode cX5_callers 25 = .ok (.iconst 1, 1) := by decide +kernel
theorem dX5_callers_26 : decode cX5_callers 26 = .ok (.if_icmp .ne 40, 3) := by decide +kernel
theorem dX5_callers_29 : decode cX5_callers 29 = .ok (.aload_n 0, 1) := by decide +kernel
theorem dX5_callers_30 : decode cX5_callers 30 = .ok (.iload_n 1, 1) := by decide +kernel
theorem dX5_callers_31 : decode cX5_callers 31 = .ok (.aload_n 3, 1) := by decide +kernel
theorem dX5_callers_32 : decode cX5_callers 32 = .ok (.invokevirtual 80, 3) := by decide +kernel
theorem dX5_callers_35 : decode cX5_callers 35 = .ok (.aload_n 3, 1) := by decide +kernel
theorem dX5_callers_36 : decode cX5_callers 36 = .ok (.iload_n 2, 1) := by decide +kernel
theorem dX5_callers_37 : decode cX5_callers 37 = .ok (.invokevirtual 91, 3) := by decide +kernel
theorem dX5_callers_40 : decode cX5_callers 40 = .ok (.isub, 1) := by decide +kernel
theorem dX5_callers_41 : decode cX5_callers 41 = .ok (.istore 5, 2) := by decide +kernel
theorem dX5_callers_43 : decode cX5_callers 43 = .ok (.iload 5, 2) := by decide +kernel
theorem dX5_callers_45 : decode cX5_callers 45 = .ok (.ifCond .lt 19, 3) := by decide +kernel
theorem dX5_callers_48 : decode cX5_callers 48 = .ok (.iload 5, 2) := by decide +kernel
theorem dX5_callers_50 : decode cX5_callers 50 = .ok (.aload 4, 2) := by decide +kernel
theorem dX5_callers_52 : decode cX5_callers 52 = .ok (.arraylength, 1) := by decide +kernel
theorem dX5_callers_53 : decode cX5_callers 53 = .ok (.if_icmp .ge 11, 3) := by decide +kernel
theorem dX5_callers_56 : decode cX5_callers 56 = .ok (.aload 4, 2) := by decide +kernel
theorem dX5_callers_58 : decode cX5_callers 58 = .ok (.iload 5, 2) := by decide +kernel
theorem dX5_callers_60 : decode cX5_callers 60 = .ok (.iaload, 1) := by decide +kernel
theorem dX5_callers_61 : decode cX5_callers 61 = .ok (.goto 4, 3) := by decide +kernel
theorem dX5_callers_64 : decode cX5_callers 64 = .ok (.iconst 0, 1) := by decide +kernel
theorem dX5_callers_65 : decode cX5_callers 65 = .ok (.ireturn, 1) := by decide +kernel
theorem dX5_callers_66 : decode cX5_callers 66 = .ok (.aload_n 0, 1) := by decide +kernel
theorem dX5_callers_67 : decode cX5_callers 67 = .ok (.iload_n 1, 1) := by decide +kernel
theorem dX5_callers_68 : decode cX5_callers 68 = .ok (.iload_n 2, 1) := by decide +kernel
theorem dX5_callers_69 : decode cX5_callers 69 = .ok (.invokevirtual 52, 3) := by decide +kernel
theorem dX5_callers_72 : decode cX5_callers 72 = .ok (.ireturn, 1) := by decide +kernel
theorem dX5_add_0 : decode cX5_add 0 = .ok (.aload_n 0, 1) := by decide +kernel
theorem dX5_add_1 : decode cX5_add 1 = .ok (.getfield 31, 3) := by decide +kernel
theorem dX5_add_4 : decode cX5_add 4 = .ok (.bipush 20, 2) := by decide +kernel
theorem dX5_add_6 : decode cX5_add 6 = .ok (.if_icmp .ge 23, 3) := by decide +kernel
theorem dX5_add_9 : decode cX5_add 9 = .ok (.aload_n 0, 1) := by decide +kernel
theorem dX5_add_10 : decode cX5_add 10 = .ok (.getfield 21, 3) := by decide +kernel
theorem dX5_add_13 : decode cX5_add 13 = .ok (.aload_n 0, 1) := by decide +kernel
theorem dX5_add_14 : decode cX5_add 14 = .ok (.getfield 31, 3) := by decide +kernel
theorem dX5_add_17 : decode cX5_add 17 = .ok (.iload_n 1, 1) := by decide +kernel
theorem dX5_add_18 : decode cX5_add 18 = .ok (.iastore, 1) := by decide +kernel
theorem dX5_add_19 : decode cX5_add 19 = .ok (.aload_n 0, 1) := by decide +kernel
theorem dX5_add_20 : decode cX5_add 20 = .ok (.dup, 1) := by decide +kernel
theorem dX5_add_21 : decode cX5_add 21 = .ok (.getfield 31, 3) := by decide +kernel
theorem dX5_add_24 : decode cX5_add 24 = .ok (.iconst 1, 1) := by decide +kernel
theorem dX5_add_25 : decode cX5_add 25 = .ok (.iadd, 1) := by decide +kernel
theorem dX5_add_26 : decode cX5_add 26 = .ok (.putfield 31, 3) := by decide +kernel
theorem dX5_add_29 : decode cX5_add 29 = .ok (.return_, 1) := by decide +kernel
