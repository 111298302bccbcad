theorem dX9_hole_23 : decode cX9_hole 23 = .ok (.aload_n 3, 1) := by decide +kernel
theorem dX9_hole_24 : decode cX9_hole 24 = .ok (.invokevirtual 265, 3) := by decide +kernel
theorem dX9_hole_27 : decode cX9_hole 27 = .ok (.ifCond .ne 7, 3) := by decide +kernel
theorem dX9_hole_30 : decode cX9_hole 30 = .ok (.ldc2_w 268, 3) := by decide +kernel
theorem dX9_hole_33 : decode cX9_hole 33 = .ok (.lreturn, 1) := by decide +kernel
theorem dX9_hole_34 : decode cX9_hole 34 = .ok (.aload_n 0, 1) := by decide +kernel
theorem dX9_hole_35 : decode cX9_hole 35 = .ok (.getfield 59, 3) := by decide +kernel
theorem dX9_hole_38 : decode cX9_hole 38 = .ok (.iload_n 2, 1) := by decide +kernel
theorem dX9_hole_39 : decode cX9_hole 39 = .ok (.invokevirtual 270, 3) := by decide +kernel
theorem dX9_hole_42 : decode cX9_hole 42 = .ok (.i2l, 1) := by decide +kernel
theorem dX9_hole_43 : decode cX9_hole 43 = .ok (.lreturn, 1) := by decide +kernel
set_option maxRecDepth 20000 in
theorem ggX9_doubt_X9_functionAt : GoodIn wsX9_doubt wsX9_functionAt := goodIn_r _ [9, 10, 11, 141, 142, 143, 144, 145, 146, 147, 148, 149, 150, 151, 152] (by decide +kernel) (by decide +kernel)
set_option maxRecDepth 20000 in
theorem gX9_doubt_X9_functionAt : GoodIn wsX9_doubt (wsV RX9 129 RX9 yX9_functionAt wsX9_functionAt) := goodIn_app (goodIn_of _ (by decide +kernel)) ggX9_doubt_X9_functionAt
set_option maxRecDepth 20000 in
theorem ggX9_doubt_X5_findDoubt : GoodIn wsX9_doubt wsX5_findDoubt := goodIn_r _ [16, 17, 18, 19, 20, 21, 22, 15, 23, 24, 25, 26, 27, 28, 29, 30, 31, 32, 33, 34, 35, 36, 37, 38, 39, 40, 41, 42, 43, 44, 45, 46, 47, 48, 49, 50, 51, 52, 53, 54, 55, 56, 57, 58, 59, 60, 61, 62, 63, 64, 65, 66, 67, 68, 69, 70, 71, 72, 73, 74, 75, 76, 77, 78, 79, 80, 81, 82, 83, 84, 85, 86, 87, 88, 89, 90, 91, 92, 93, 94, 95, 96, 97, 98, 99, 100, 101, 102, 103, 104, 105, 106, 107, 108, 109, 110, 111, 112, 113, 114, 115, 116, 117, 118, 119, 120, 121, 122, 123, 124, 125, 126, 127, 128, 159, 160, 161, 162, 163, 164, 165, 166, 167, 168, 153, 154, 155, 156, 157, 158, 169, 170, 171, 172, 173, 174, 175, 176, 177, 178, 179, 180, 181, 182, 183, 184, 185, 186, 187, 188, 189] (by decide +kernel) (by decide +kernel)
set_option maxRecDepth 20000 in
theorem gX9_doubt_X5_findDoubt : GoodIn wsX9_doubt (wsV RX9 273 RX5 yX5_findDoubt wsX5_findDoubt) := goodIn_app (goodIn_of _ (by decide +kernel)) ggX9_doubt_X5_findDoubt
set_option maxRecDepth 20000 in
theorem ggX9_doubt_X1_numberAt : GoodIn wsX9_doubt wsX1_numberAt := goodIn_r _ [132, 133, 134, 65, 66, 37, 67, 68, 69, 176, 177, 178, 179, 180, 181, 182, 183, 184, 159, 160, 161, 162, 163, 164, 165, 166, 167, 168] (by decide +kernel) (by decide +kernel)
set_option maxRecDepth 20000 in
theorem gX9_doubt_X1_numberAt : GoodIn wsX9_doubt (wsV RX9 198 RX1 yX1_numberAt wsX1_numberAt) := goodIn_app (goodIn_of _ (by decide +kernel)) ggX9_doubt_X1_numberAt
set_option maxRecDepth 20000 in
theorem ggX9_doubt_X5_partOfTuple : GoodIn wsX9_doubt wsX5_partOfTuple := goodIn_r _ [138, 24, 139, 127, 25, 128, 140, 153, 154, 155, 156, 157, 158, 169, 170, 171, 172, 173, 174, 175] (by decide +kernel) (by decide +kernel)
set_option maxRecDepth 20000 in
theorem gX9_doubt_X5_partOfTuple : GoodIn wsX9_doubt (wsV RX9 270 RX5 yX5_partOfTuple wsX5_partOfTuple) := goodIn_app (goodIn_of _ (by decide +kernel)) ggX9_doubt_X5_partOfTuple
theorem dX9_doubt_0 : decode cX9_doubt 0 = .ok (.aload_n 0, 1) := by decide +kernel
theorem dX9_doubt_1 : decode cX9_doubt 1 = .ok (.iload_n 1, 1) := by decide +kernel
theorem dX9_doubt_2 : decode cX9_doubt 2 = .ok (.invokevirtual 129, 3) := by decide +kernel
theorem dX9_doubt_5 : decode cX9_doubt 5 = .ok (.astore 4, 2) := by decide +kernel
theorem dX9_doubt_7 : decode cX9_doubt 7 = .ok (.aload 4, 2) := by decide +kernel
theorem dX9_doubt_9 : decode cX9_doubt 9 = .ok (.ifnull 29, 3) := by decide +kernel
theorem dX9_doubt_12 : decode cX9_doubt 12 = .ok (.iload_n 2, 1) := by decide +kernel
theorem dX9_doubt_13 : decode cX9_doubt 13 = .ok (.ifCond .lt 25, 3) := by decide +kernel
theorem dX9_doubt_16 : decode cX9_doubt 16 = .ok (.iload_n 3, 1) := by decide +kernel
theorem dX9_doubt_17 : decode cX9_doubt 17 = .ok (.ifCond .lt 21, 3) := by decide +kernel
theorem dX9_doubt_20 : decode cX9_doubt 20 = .ok (.iload_n 3, 1) := by decide +kernel
theorem dX9_doubt_21 : decode cX9_doubt 21 = .ok (.iconst 5, 1) := by decide +kernel
theorem dX9_doubt_22 : decode cX9_doubt 22 = .ok (.if_icmp .gt 16, 3) := by decide +kernel
theorem dX9_doubt_25 : decode cX9_doubt 25 = .ok (.aload_n 0, 1) := by decide +kernel
theorem dX9_doubt_26 : decode cX9_doubt 26 = .ok (.getfield 59, 3) := by decide +kernel
theorem dX9_doubt_29 : decode cX9_doubt 29 = .ok (.aload 4, 2) := by decide +kernel
theorem dX9_doubt_31 : decode cX9_doubt 31 = .ok (.iload_n 2, 1) := by decide +kernel
theorem dX9_doubt_32 : decode cX9_doubt 32 = .ok (.invokevirtual 273, 3) := by decide +kernel
theorem dX9_doubt_35 : decode cX9_doubt 35 = .ok (.ifCond .ne 7, 3) := by decide +kernel
theorem dX9_doubt_38 : decode cX9_doubt 38 = .ok (.ldc2_w 268, 3) := by decide +kernel
theorem dX9_doubt_41 : decode cX9_doubt 41 = .ok (.lreturn, 1) := by decide +kernel
theorem dX9_doubt_42 : decode cX9_doubt 42 = .ok (.iload_n 3, 1) := by decide +kernel
theorem dX9_doubt_43 : decode cX9_doubt 43 = .ok (.lookupswitch 53 #[(0, 25), (1, 39)], 25) := by decide +kernel
theorem dX9_doubt_68 : decode cX9_doubt 68 = .ok (.aload 4, 2) := by decide +kernel
theorem dX9_doubt_70 : decode cX9_doubt 70 = .ok (.aload_n 0, 1) := by decide +kernel
theorem dX9_doubt_71 : decode cX9_doubt 71 = .ok (.getfield 59, 3) := by decide +kernel
theorem dX9_doubt_74 : decode cX9_doubt 74 = .ok (.getfield 277, 3) := by decide +kernel
theorem dX9_doubt_77 : decode cX9_doubt 77 = .ok (.invokevirtual 198, 3) := by decide +kernel
theorem dX9_doubt_80 : decode cX9_doubt 80 = .ok (.i2l, 1) := by decide +kernel
theorem dX9_doubt_81 : decode cX9_doubt 81 = .ok (.lreturn, 1) := by decide +kernel
theorem dX9_doubt_82 : decode cX9_doubt 82 = .ok (.aload 4, 2) := by decide +kernel
theorem dX9_doubt_84 : decode cX9_doubt 84 = .ok (.aload_n 0, 1) := by decide +kernel
theorem dX9_doubt_85 : decode cX9_doubt 85 = .ok (.getfield 59, 3) := by decide +kernel
theorem dX9_doubt_88 : decode cX9_doubt 88 = .ok (.getfield 280, 3) := by decide +kernel
theorem dX9_doubt_91 : decode cX9_doubt 91 = .ok (.invokevirtual 198, 3) := by decide +kernel
theorem dX9_doubt_94 : decode cX9_doubt 94 = .ok (.i2l, 1) := by decide +kernel
theorem dX9_doubt_95 : decode cX9_doubt 95 = .ok (.lreturn, 1) := by decide +kernel
theorem dX9_doubt_96 : decode cX9_doubt 96 = .ok (.aload_n 0, 1) := by decide +kernel
theorem dX9_doubt_97 : decode cX9_doubt 97 = .ok (.getfield 59, 3) := by decide +kernel
theorem dX9_doubt_100 : decode cX9_doubt 100 = .ok (.iload_n 3, 1) := by decide +kernel
theorem dX9_doubt_101 : decode cX9_doubt 101 = .ok (.iconst 2, 1) := by decide +kernel
theorem dX9_doubt_102 : decode cX9_doubt 102 = .ok (.isub, 1) := by decide +kernel
theorem dX9_doubt_103 : decode cX9_doubt 103 = .ok (.invokevirtual 270, 3) := by decide +kernel
theorem dX9_doubt_106 : decode cX9_doubt 106 = .ok (.i2l, 1) := by decide +kernel
theorem dX9_doubt_107 : decode cX9_doubt 107 = .ok (.lreturn, 1) := by decide +kernel
theorem dX9_isClass_0 : decode cX9_isClass 0 = .ok (.iload_n 0, 1) := by decide +kernel
theorem dX9_isClass_1 : decode cX9_isClass 1 = .ok (.ifCond .lt 13, 3) := by decide +kernel
theorem dX9_isClass_4 : decode cX9_isClass 4 = .ok (.iload_n 0, 1) := by decide +kernel
theorem dX9_isClass_5 : decode cX9_isClass 5 = .ok (.bipush 12, 2) := by decide +kernel
theorem dX9_isClass_7 : decode cX9_isClass 7 = .ok (.if_icmp .ge 7, 3) := by decide +kernel
theorem dX9_isClass_10 : decode cX9_isClass 10 = .ok (.iconst 1, 1) := by decide +kernel
theorem dX9_isClass_11 : decode cX9_isClass 11 = .ok (.goto 4, 3) := by decide +kernel
theorem dX9_isClass_14 : decode cX9_isClass 14 = .ok (.iconst 0, 1) := by decide +kernel
theorem dX9_isClass_15 : decode cX9_isClass 15 = .ok (.ireturn, 1) := by decide +kernel
theorem dX9_isTrait_0 : decode cX9_isTrait 0 = .ok (.iload_n 0, 1) := by decide +kernel
theorem dX9_isTrait_1 : decode cX9_isTrait 1 = .ok (.bipush 12, 2) := by decide +kernel
theorem dX9_isTrait_3 : decode cX9_isTrait 3 = .ok (.if_icmp .lt 13, 3) := by decide +kernel
theorem dX9_isTrait_6 : decode cX9_isTrait 6 = .ok (.iload_n 0, 1) := by decide +kernel
theorem dX9_isTrait_7 : decode cX9_isTrait 7 = .ok (.bipush 16, 2) := by decide +kernel
theorem dX9_isTrait_9 : decode cX9_isTrait 9 = .ok (.if_icmp .ge 7, 3) := by decide +kernel
theorem dX9_isTrait_12 : decode cX9_isTrait 12 = .ok (.iconst 1, 1) := by decide +kernel
theorem dX9_isTrait_13 : decode cX9_isTrait 13 = .ok (.goto 4, 3) := by decide +kernel
theorem dX9_isTrait_16 : decode cX9_isTrait 16 = .ok (.iconst 0, 1) := by decide +kernel
theorem dX9_isTrait_17 : decode cX9_isTrait 17 = .ok (.ireturn, 1) := by decide +kernel
theorem dX9_isCode_0 : decode cX9_isCode 0 = .ok (.iload_n 0, 1) := by decide +kernel
theorem dX9_isCode_1 : decode cX9_isCode 1 = .ok (.ifCond .lt 13, 3) := by decide +kernel
theorem dX9_isCode_4 : decode cX9_isCode 4 = .ok (.iload_n 0, 1) := by decide +kernel
theorem dX9_isCode_5 : decode cX9_isCode 5 = .ok (.bipush 16, 2) := by decide +kernel
theorem dX9_isCode_7 : decode cX9_isCode 7 = .ok (.if_icmp .ge 7, 3) := by decide +kernel
theorem dX9_isCode_10 : decode cX9_isCode 10 = .ok (.iconst 1, 1) := by decide +kernel
theorem dX9_isCode_11 : decode cX9_isCode 11 = .ok (.goto 4, 3) := by decide +kernel
theorem dX9_isCode_14 : decode cX9_isCode 14 = .ok (.iconst 0, 1) := by decide +kernel
theorem dX9_isCode_15 : decode cX9_isCode 15 = .ok (.ireturn, 1) := by decide +kernel
theorem dX9_elementOrZero_0 : decode cX9_elementOrZero 0 = .ok (.iload_n 1, 1) := by decide +kernel
theorem dX9_elementOrZero_1 : decode cX9_elementOrZero 1 = .ok (.ifCond .lt 15, 3) := by decide +kernel
theorem dX9_elementOrZero_4 : decode cX9_elementOrZero 4 = .ok (.iload_n 1, 1) := by decide +kernel
theorem dX9_elementOrZero_5 : decode cX9_elementOrZero 5 = .ok (.aload_n 0, 1) := by decide +kernel
theorem dX9_elementOrZero_6 : decode cX9_elementOrZero 6 = .ok (.arraylength, 1) := by decide +kernel
theorem dX9_elementOrZero_7 : decode cX9_elementOrZero 7 = .ok (.if_icmp .ge 9, 3) := by decide +kernel
theorem dX9_elementOrZero_10 : decode cX9_elementOrZero 10 = .ok (.aload_n 0, 1) := by decide +kernel
theorem dX9_elementOrZero_11 : decode cX9_elementOrZero 11 = .ok (.iload_n 1, 1) := by decide +kernel
theorem dX9_elementOrZero_12 : decode cX9_elementOrZero 12 = .ok (.iaload, 1) := by decide +kernel
theorem dX9_elementOrZero_13 : decode cX9_elementOrZero 13 = .ok (.goto 4, 3) := by decide +kernel
theorem dX9_elementOrZero_16 : decode cX9_elementOrZero 16 = .ok (.iconst 0, 1) := by decide +kernel
theorem dX9_elementOrZero_17 : decode cX9_elementOrZero 17 = .ok (.ireturn, 1) := by decide +kernel
theorem dX9_memberAt_0 : decode cX9_memberAt 0 = .ok (.iconst 0, 1) := by decide +kernel
theorem dX9_memberAt_1 : decode cX9_memberAt 1 = .ok (.istore_n 2, 1) := by decide +kernel
theorem dX9_memberAt_2 : decode cX9_memberAt 2 = .ok (.iconst 0, 1) := by decide +kernel
theorem dX9_memberAt_3 : decode cX9_memberAt 3 = .ok (.istore_n 3, 1) := by decide +kernel
theorem dX9_memberAt_4 : decode cX9_memberAt 4 = .ok (.iload_n 3, 1) := by decide +kernel
theorem dX9_memberAt_5 : decode cX9_memberAt 5 = .ok (.bipush 8, 2) := by decide +kernel
theorem dX9_memberAt_7 : decode cX9_memberAt 7 = .ok (.if_icmp .ge 27, 3) := by decide +kernel
theorem dX9_memberAt_10 : decode cX9_memberAt 10 = .ok (.iload_n 0, 1) := by decide +kernel
theorem dX9_memberAt_11 : decode cX9_memberAt 11 = .ok (.iconst 1, 1) := by decide +kernel
theorem dX9_memberAt_12 : decode cX9_memberAt 12 = .ok (.iload_n 3, 1) := by decide +kernel
theorem dX9_memberAt_13 : decode cX9_memberAt 13 = .ok (.ishl, 1) := by decide +kernel
theorem dX9_memberAt_14 : decode cX9_memberAt 14 = .ok (.iand, 1) := by decide +kernel
theorem dX9_memberAt_15 : decode cX9_memberAt 15 = .ok (.ifCond .eq 13, 3) := by decide +kernel
theorem dX9_memberAt_18 : decode cX9_memberAt 18 = .ok (.iload_n 2, 1) := by decide +kernel
theorem dX9_memberAt_19 : decode cX9_memberAt 19 = .ok (.iload_n 1, 1) := by decide +kernel
theorem dX9_memberAt_20 : decode cX9_memberAt 20 = .ok (.if_icmp .ne 5, 3) := by decide +kernel
theorem dX9_memberAt_23 : decode cX9_memberAt 23 = .ok (.iload_n 3, 1) := by decide +kernel
theorem dX9_memberAt_24 : decode cX9_memberAt 24 = .ok (.ireturn, 1) := by decide +kernel
theorem dX9_memberAt_25 : decode cX9_memberAt 25 = .ok (.iinc 2 1, 3) := by decide +kernel
theorem dX9_memberAt_28 : decode cX9_memberAt 28 = .ok (.iinc 3 1, 3) := by decide +kernel
theorem dX9_memberAt_31 : decode cX9_memberAt 31 = .ok (.goto (-27), 3) := by decide +kernel
theorem dX9_memberAt_34 : decode cX9_memberAt 34 = .ok (.iconst (-1), 1) := by decide +kernel
theorem dX9_memberAt_35 : decode cX9_memberAt 35 = .ok (.ireturn, 1) := by decide +kernel
theorem dX9_functionAt_0 : decode cX9_functionAt 0 = .ok (.iload_n 1, 1) := by decide +kernel
theorem dX9_functionAt_1 : decode cX9_functionAt 1 = .ok (.ifCond .lt 20, 3) := by decide +kernel
theorem dX9_functionAt_4 : decode cX9_functionAt 4 = .ok (.iload_n 1, 1) := by decide +kernel
theorem dX9_functionAt_5 : decode cX9_functionAt 5 = .ok (.aload_n 0, 1) := by decide +kernel
theorem dX9_functionAt_6 : decode cX9_functionAt 6 = .ok (.getfield 63, 3) := by decide +kernel
theorem dX9_functionAt_9 : decode cX9_functionAt 9 = .ok (.if_icmp .ge 12, 3) := by decide +kernel
theorem dX9_functionAt_12 : decode cX9_functionAt 12 = .ok (.aload_n 0, 1) := by decide +kernel
theorem dX9_functionAt_13 : decode cX9_functionAt 13 = .ok (.getfield 25, 3) := by decide +kernel
theorem dX9_functionAt_16 : decode cX9_functionAt 16 = .ok (.iload_n 1, 1) := by decide +kernel
theorem dX9_functionAt_17 : decode cX9_functionAt 17 = .ok (.aaload, 1) := by decide +kernel
theorem dX9_functionAt_18 : decode cX9_functionAt 18 = .ok (.goto 4, 3) := by decide +kernel
theorem dX9_functionAt_21 : decode cX9_functionAt 21 = .ok (.aconst_null, 1) := by decide +kernel
theorem dX9_functionAt_22 : decode cX9_functionAt 22 = .ok (.areturn, 1) := by decide +kernel
theorem dX9_handlerAt_0 : decode cX9_handlerAt 0 = .ok (.iload_n 1, 1) := by decide +kernel
theorem dX9_handlerAt_1 : decode cX9_handlerAt 1 = .ok (.ifCond .lt 20, 3) := by decide +kernel
theorem dX9_handlerAt_4 : decode cX9_handlerAt 4 = .ok (.iload_n 1, 1) := by decide +kernel
theorem dX9_handlerAt_5 : decode cX9_handlerAt 5 = .ok (.aload_n 0, 1) := by decide +kernel
theorem dX9_handlerAt_6 : decode cX9_handlerAt 6 = .ok (.getfield 67, 3) := by decide +kernel
theorem dX9_handlerAt_9 : decode cX9_handlerAt 9 = .ok (.if_icmp .ge 12, 3) := by decide +kernel
theorem dX9_handlerAt_12 : decode cX9_handlerAt 12 = .ok (.aload_n 0, 1) := by decide +kernel
theorem dX9_handlerAt_13 : decode cX9_handlerAt 13 = .ok (.getfield 31, 3) := by decide +kernel
theorem dX9_handlerAt_16 : decode cX9_handlerAt 16 = .ok (.iload_n 1, 1) := by decide +kernel
theorem dX9_handlerAt_17 : decode cX9_handlerAt 17 = .ok (.aaload, 1) := by decide +kernel
theorem dX9_handlerAt_18 : decode cX9_handlerAt 18 = .ok (.goto 4, 3) := by decide +kernel
theorem dX9_handlerAt_21 : decode cX9_handlerAt 21 = .ok (.aconst_null, 1) := by decide +kernel
theorem dX9_handlerAt_22 : decode cX9_handlerAt 22 = .ok (.areturn, 1) := by decide +kernel
set_option maxRecDepth 20000 in
theorem ggX9_readToldRow_X7_holds : GoodIn wsX9_readToldRow wsX7_holds := goodIn_r _ [14, 15, 41, 42, 43] (by decide +kernel) (by decide +kernel)
set_option maxRecDepth 20000 in
theorem gX9_readToldRow_X7_holds : GoodIn wsX9_readToldRow (wsV RX9 114 RX7 yX7_holds wsX7_holds) := goodIn_app (goodIn_of _ (by decide +kernel)) ggX9_readToldRow_X7_holds
theorem dX9_readToldRow_0 : decode cX9_readToldRow 0 = .ok (.iconst 0, 1) := by decide +kernel
theorem dX9_readToldRow_1 : decode cX9_readToldRow 1 = .ok (.istore_n 2, 1) := by decide +kernel
theorem dX9_readToldRow_2 : decode cX9_readToldRow 2 = .ok (.iload_n 2, 1) := by decide +kernel
theorem dX9_readToldRow_3 : decode cX9_readToldRow 3 = .ok (.aload_n 1, 1) := by decide +kernel
theorem dX9_readToldRow_4 : decode cX9_readToldRow 4 = .ok (.getfield 252, 3) := by decide +kernel
theorem dX9_readToldRow_7 : decode cX9_readToldRow 7 = .ok (.if_icmp .ge 65, 3) := by decide +kernel
theorem dX9_readToldRow_10 : decode cX9_readToldRow 10 = .ok (.aload_n 0, 1) := by decide +kernel
theorem dX9_readToldRow_11 : decode cX9_readToldRow 11 = .ok (.getfield 35, 3) := by decide +kernel
theorem dX9_readToldRow_14 : decode cX9_readToldRow 14 = .ok (.iload_n 2, 1) := by decide +kernel
theorem dX9_readToldRow_15 : decode cX9_readToldRow 15 = .ok (.iaload, 1) := by decide +kernel
theorem dX9_readToldRow_16 : decode cX9_readToldRow 16 = .ok (.istore_n 3, 1) := by decide +kernel
theorem dX9_readToldRow_17 : decode cX9_readToldRow 17 = .ok (.aload_n 0, 1) := by decide +kernel
theorem dX9_readToldRow_18 : decode cX9_readToldRow 18 = .ok (.getfield 19, 3) := by decide +kernel
theorem dX9_readToldRow_21 : decode cX9_readToldRow 21 = .ok (.iload_n 3, 1) := by decide +kernel
theorem dX9_readToldRow_22 : decode cX9_readToldRow 22 = .ok (.invokevirtual 114, 3) := by decide +kernel
theorem dX9_readToldRow_25 : decode cX9_readToldRow 25 = .ok (.ifCond .ne 5, 3) := by decide +kernel
theorem dX9_readToldRow_28 : decode cX9_readToldRow 28 = .ok (.iconst 0, 1) := by decide +kernel
theorem dX9_readToldRow_29 : decode cX9_readToldRow 29 = .ok (.ireturn, 1) := by decide +kernel
theorem dX9_readToldRow_30 : decode cX9_readToldRow 30 = .ok (.aload_n 0, 1) := by decide +kernel
theorem dX9_readToldRow_31 : decode cX9_readToldRow 31 = .ok (.getfield 45, 3) := by decide +kernel
theorem dX9_readToldRow_34 : decode cX9_readToldRow 34 = .ok (.getfield 283, 3) := by decide +kernel
theorem dX9_readToldRow_37 : decode cX9_readToldRow 37 = .ok (.iload_n 2, 1) := by decide +kernel
theorem dX9_readToldRow_38 : decode cX9_readToldRow 38 = .ok (.aload_n 0, 1) := by decide +kernel
theorem dX9_readToldRow_39 : decode cX9_readToldRow 39 = .ok (.getfield 19, 3) := by decide +kernel
theorem dX9_readToldRow_42 : decode cX9_readToldRow 42 = .ok (.getfield 117, 3) := by decide +kernel
theorem dX9_readToldRow_45 : decode cX9_readToldRow 45 = .ok (.iload_n 3, 1) := by decide +kernel
theorem dX9_readToldRow_46 : decode cX9_readToldRow 46 = .ok (.iaload, 1) := by decide +kernel
theorem dX9_readToldRow_47 : decode cX9_readToldRow 47 = .ok (.iastore, 1) := by decide +kernel
theorem dX9_readToldRow_48 : decode cX9_readToldRow 48 = .ok (.aload_n 0, 1) := by decide +kernel
theorem dX9_readToldRow_49 : decode cX9_readToldRow 49 = .ok (.getfield 45, 3) := by decide +kernel
theorem dX9_readToldRow_52 : decode cX9_readToldRow 52 = .ok (.getfield 284, 3) := by decide +kernel
theorem dX9_readToldRow_55 : decode cX9_readToldRow 55 = .ok (.iload_n 2, 1) := by decide +kernel
theorem dX9_readToldRow_56 : decode cX9_readToldRow 56 = .ok (.aload_n 0, 1) := by decide +kernel
theorem dX9_readToldRow_57 : decode cX9_readToldRow 57 = .ok (.getfield 19, 3) := by decide +kernel
theorem dX9_readToldRow_60 : decode cX9_readToldRow 60 = .ok (.getfield 120, 3) := by decide +kernel
theorem dX9_readToldRow_63 : decode cX9_readToldRow 63 = .ok (.iload_n 3, 1) := by decide +kernel
theorem dX9_readToldRow_64 : decode cX9_readToldRow 64 = .ok (.iaload, 1) := by decide +kernel
theorem dX9_readToldRow_65 : decode cX9_readToldRow 65 = .ok (.iastore, 1) := by decide +kernel
theorem dX9_readToldRow_66 : decode cX9_readToldRow 66 = .ok (.iinc 2 1, 3) := by decide +kernel
theorem dX9_readToldRow_69 : decode cX9_readToldRow 69 = .ok (.goto (-67), 3) := by decide +kernel
theorem dX9_readToldRow_72 : decode cX9_readToldRow 72 = .ok (.aload_n 0, 1) := by decide +kernel
theorem dX9_readToldRow_73 : decode cX9_readToldRow 73 = .ok (.getfield 45, 3) := by decide +kernel
theorem dX9_readToldRow_76 : decode cX9_readToldRow 76 = .ok (.aload_n 1, 1) := by decide +kernel
theorem dX9_readToldRow_77 : decode cX9_readToldRow 77 = .ok (.getfield 252, 3) := by decide +kernel
theorem dX9_readToldRow_80 : decode cX9_readToldRow 80 = .ok (.putfield 285, 3) := by decide +kernel
theorem dX9_readToldRow_83 : decode cX9_readToldRow 83 = .ok (.iconst 1, 1) := by decide +kernel
theorem dX9_readToldRow_84 : decode cX9_readToldRow 84 = .ok (.ireturn, 1) := by decide +kernel
theorem dX9_countOfAll_0 : decode cX9_countOfAll 0 = .ok (.iload_n 1, 1) := by decide +kernel
theorem dX9_countOfAll_1 : decode cX9_countOfAll 1 = .ok (.tableswitch 77 0 4 #[35, 40, 45, 61, 69], 35) := by decide +kernel
theorem dX9_countOfAll_36 : decode cX9_countOfAll 36 = .ok (.aload_n 0, 1) := by decide +kernel
theorem dX9_countOfAll_37 : decode cX9_countOfAll 37 = .ok (.getfield 63, 3) := by decide +kernel
theorem dX9_countOfAll_40 : decode cX9_countOfAll 40 = .ok (.ireturn, 1) := by decide +kernel
theorem dX9_countOfAll_41 : decode cX9_countOfAll 41 = .ok (.aload_n 0, 1) := by decide +kernel
theorem dX9_countOfAll_42 : decode cX9_countOfAll 42 = .ok (.getfield 67, 3) := by decide +kernel
theorem dX9_countOfAll_45 : decode cX9_countOfAll 45 = .ok (.ireturn, 1) := by decide +kernel
theorem dX9_countOfAll_46 : decode cX9_countOfAll 46 = .ok (.aload_n 0, 1) := by decide +kernel
theorem dX9_countOfAll_47 : decode cX9_countOfAll 47 = .ok (.getfield 12, 3) := by decide +kernel
theorem dX9_countOfAll_50 : decode cX9_countOfAll 50 = .ok (.getfield 77, 3) := by decide +kernel
theorem dX9_countOfAll_53 : decode cX9_countOfAll 53 = .ok (.ifCond .eq 7, 3) := by decide +kernel
theorem dX9_countOfAll_56 : decode cX9_countOfAll 56 = .ok (.iconst 1, 1) := by decide +kernel
theorem dX9_countOfAll_57 : decode cX9_countOfAll 57 = .ok (.goto 4, 3) := by decide +kernel
theorem dX9_countOfAll_60 : decode cX9_countOfAll 60 = .ok (.iconst 0, 1) := by decide +kernel
theorem dX9_countOfAll_61 : decode cX9_countOfAll 61 = .ok (.ireturn, 1) := by decide +kernel
theorem dX9_countOfAll_62 : decode cX9_countOfAll 62 = .ok (.aload_n 0, 1) := by decide +kernel
theorem dX9_countOfAll_63 : decode cX9_countOfAll 63 = .ok (.getfield 52, 3) := by decide +kernel
theorem dX9_countOfAll_66 : decode cX9_countOfAll 66 = .ok (.getfield 226, 3) := by decide +kernel
theorem dX9_countOfAll_69 : decode cX9_countOfAll 69 = .ok (.ireturn, 1) := by decide +kernel
theorem dX9_countOfAll_70 : decode cX9_countOfAll 70 = .ok (.aload_n 0, 1) := by decide +kernel
theorem dX9_countOfAll_71 : decode cX9_countOfAll 71 = .ok (.getfield 52, 3) := by decide +kernel
theorem dX9_countOfAll_74 : decode cX9_countOfAll 74 = .ok (.getfield 209, 3) := by decide +kernel
theorem dX9_countOfAll_77 : decode cX9_countOfAll 77 = .ok (.ireturn, 1) := by decide +kernel
theorem dX9_countOfAll_78 : decode cX9_countOfAll 78 = .ok (.bipush (-2), 2) := by decide +kernel
theorem dX9_countOfAll_80 : decode cX9_countOfAll 80 = .ok (.ireturn, 1) := by decide +kernel
set_option maxRecDepth 20000 in
theorem ggX9_explainAmongTakers_X1_indexOf : GoodIn wsX9_explainAmongTakers wsX1_indexOf := goodIn_r _ [8, 9, 10, 11, 94, 95, 96, 97, 98, 99, 100, 101, 102, 103, 73, 74, 75, 76, 77, 78, 79, 80, 81] (by decide +kernel) (by decide +kernel)
set_option maxRecDepth 20000 in
theorem gX9_explainAmongTakers_X1_indexOf : GoodIn wsX9_explainAmongTakers (wsV RX9 286 RX1 yX1_indexOf wsX1_indexOf) := goodIn_app (goodIn_of _ (by decide +kernel)) ggX9_explainAmongTakers_X1_indexOf
set_option maxRecDepth 20000 in
theorem ggX9_explainAmongTakers_X1_plainTakersOf : GoodIn wsX9_explainAmongTakers wsX1_plainTakersOf := goodIn_r _ [15, 16, 17, 18, 19, 7, 20, 9, 21, 22, 23, 24, 25, 26, 27, 10, 28, 29, 30, 31, 32, 33, 34, 35, 36, 37, 38, 39, 40, 41, 42, 43, 44, 45, 46, 47, 48, 49, 50, 51, 94, 95, 96, 97, 98, 99, 100, 101, 102, 103, 104, 105, 106, 73, 74, 75, 76, 77, 78, 79, 80, 81, 107, 108, 109, 110, 111] (by decide +kernel) (by decide +kernel)
set_option maxRecDepth 20000 in
theorem gX9_explainAmongTakers_X1_plainTakersOf : GoodIn wsX9_explainAmongTakers (wsV RX9 232 RX1 yX1_plainTakersOf wsX1_plainTakersOf) := goodIn_app (goodIn_of _ (by decide +kernel)) ggX9_explainAmongTakers_X1_plainTakersOf
set_option maxRecDepth 20000 in
theorem ggX9_explainAmongTakers_X1_beatersOf : GoodIn wsX9_explainAmongTakers wsX1_beatersOf := goodIn_r _ [55, 9, 56, 94, 95, 96, 97, 98, 99, 100, 101, 102, 103] (by decide +kernel) (by decide +kernel)
set_option maxRecDepth 20000 in
theorem gX9_explainAmongTakers_X1_beatersOf : GoodIn wsX9_explainAmongTakers (wsV RX9 289 RX1 yX1_beatersOf wsX1_beatersOf) := goodIn_app (goodIn_of _ (by decide +kernel)) ggX9_explainAmongTakers_X1_beatersOf
set_option maxRecDepth 20000 in
theorem ggX9_explainAmongTakers_X9_memberAt : GoodIn wsX9_explainAmongTakers wsX9_memberAt := goodIn_r _ [60] (by decide +kernel) (by decide +kernel)
set_option maxRecDepth 20000 in
theorem gX9_explainAmongTakers_X9_memberAt : GoodIn wsX9_explainAmongTakers (va_wsS RX9 236 yX9_memberAt wsX9_memberAt) := goodIn_app (goodIn_of _ (by decide +kernel)) ggX9_explainAmongTakers_X9_memberAt
set_option maxRecDepth 20000 in
theorem ggX9_explainAmongTakers_X1_numberAt : GoodIn wsX9_explainAmongTakers wsX1_numberAt := goodIn_r _ [64, 11, 65, 66, 67, 7, 68, 9, 10, 73, 74, 75, 76, 77, 78, 79, 80, 81, 94, 95, 96, 97, 98, 99, 100, 101, 102, 103] (by decide +kernel) (by decide +kernel)
set_option maxRecDepth 20000 in
theorem gX9_explainAmongTakers_X1_numberAt : GoodIn wsX9_explainAmongTakers (wsV RX9 198 RX1 yX1_numberAt wsX1_numberAt) := goodIn_app (goodIn_of _ (by decide +kernel)) ggX9_explainAmongTakers_X1_numberAt
set_option maxRecDepth 20000 in
theorem ggX9_explainAmongTakers_X1_beatenBy : GoodIn wsX9_explainAmongTakers wsX1_beatenBy := goodIn_r _ [72, 9, 56, 94, 95, 96, 97, 98, 99, 100, 101, 102, 103] (by decide +kernel) (by decide +kernel)
set_option maxRecDepth 20000 in
theorem gX9_explainAmongTakers_X1_beatenBy : GoodIn wsX9_explainAmongTakers (wsV RX9 292 RX1 yX1_beatenBy wsX1_beatenBy) := goodIn_app (goodIn_of _ (by decide +kernel)) ggX9_explainAmongTakers_X1_beatenBy
theorem dX9_explainAmongTakers_0 : decode cX9_explainAmongTakers 0 = .ok (.aload_n 1, 1) := by decide +kernel
theorem dX9_explainAmongTakers_1 : decode cX9_explainAmongTakers 1 = .ok (.getfield 140, 3) := by decide +kernel
theorem dX9_explainAmongTakers_4 : decode cX9_explainAmongTakers 4 = .ok (.astore_n 2, 1) := by decide +kernel
theorem dX9_explainAmongTakers_5 : decode cX9_explainAmongTakers 5 = .ok (.aload_n 2, 1) := by decide +kernel
theorem dX9_explainAmongTakers_6 : decode cX9_explainAmongTakers 6 = .ok (.aload_n 1, 1) := by decide +kernel
theorem dX9_explainAmongTakers_7 : decode cX9_explainAmongTakers 7 = .ok (.invokevirtual 286, 3) := by decide +kernel
theorem dX9_explainAmongTakers_10 : decode cX9_explainAmongTakers 10 = .ok (.istore_n 3, 1) := by decide +kernel
theorem dX9_explainAmongTakers_11 : decode cX9_explainAmongTakers 11 = .ok (.aload_n 2, 1) := by decide +kernel
theorem dX9_explainAmongTakers_12 : decode cX9_explainAmongTakers 12 = .ok (.aload_n 0, 1) := by decide +kernel
theorem dX9_explainAmongTakers_13 : decode cX9_explainAmongTakers 13 = .ok (.getfield 45, 3) := by decide +kernel
theorem dX9_explainAmongTakers_16 : decode cX9_explainAmongTakers 16 = .ok (.invokevirtual 232, 3) := by decide +kernel
theorem dX9_explainAmongTakers_19 : decode cX9_explainAmongTakers 19 = .ok (.istore 4, 2) := by decide +kernel
theorem dX9_explainAmongTakers_21 : decode cX9_explainAmongTakers 21 = .ok (.iload 4, 2) := by decide +kernel
theorem dX9_explainAmongTakers_23 : decode cX9_explainAmongTakers 23 = .ok (.aload_n 2, 1) := by decide +kernel
theorem dX9_explainAmongTakers_24 : decode cX9_explainAmongTakers 24 = .ok (.iload_n 3, 1) := by decide +kernel
theorem dX9_explainAmongTakers_25 : decode cX9_explainAmongTakers 25 = .ok (.invokevirtual 289, 3) := by decide +kernel
theorem dX9_explainAmongTakers_28 : decode cX9_explainAmongTakers 28 = .ok (.iand, 1) := by decide +kernel
theorem dX9_explainAmongTakers_29 : decode cX9_explainAmongTakers 29 = .ok (.istore 5, 2) := by decide +kernel
theorem dX9_explainAmongTakers_31 : decode cX9_explainAmongTakers 31 = .ok (.iload 5, 2) := by decide +kernel
theorem dX9_explainAmongTakers_33 : decode cX9_explainAmongTakers 33 = .ok (.ifCond .eq 19, 3) := by decide +kernel
theorem dX9_explainAmongTakers_36 : decode cX9_explainAmongTakers 36 = .ok (.aload_n 0, 1) := by decide +kernel
theorem dX9_explainAmongTakers_37 : decode cX9_explainAmongTakers 37 = .ok (.aload_n 2, 1) := by decide +kernel
theorem dX9_explainAmongTakers_38 : decode cX9_explainAmongTakers 38 = .ok (.iload 5, 2) := by decide +kernel
theorem dX9_explainAmongTakers_40 : decode cX9_explainAmongTakers 40 = .ok (.iconst 0, 1) := by decide +kernel
theorem dX9_explainAmongTakers_41 : decode cX9_explainAmongTakers 41 = .ok (.invokestatic 236, 3) := by decide +kernel
theorem dX9_explainAmongTakers_44 : decode cX9_explainAmongTakers 44 = .ok (.invokevirtual 198, 3) := by decide +kernel
theorem dX9_explainAmongTakers_47 : decode cX9_explainAmongTakers 47 = .ok (.putfield 70, 3) := by decide +kernel
theorem dX9_explainAmongTakers_50 : decode cX9_explainAmongTakers 50 = .ok (.iconst 4, 1) := by decide +kernel
theorem dX9_explainAmongTakers_51 : decode cX9_explainAmongTakers 51 = .ok (.ireturn, 1) := by decide +kernel
theorem dX9_explainAmongTakers_52 : decode cX9_explainAmongTakers 52 = .ok (.iload 4, 2) := by decide +kernel
theorem dX9_explainAmongTakers_54 : decode cX9_explainAmongTakers 54 = .ok (.iconst 1, 1) := by decide +kernel
theorem dX9_explainAmongTakers_55 : decode cX9_explainAmongTakers 55 = .ok (.iload_n 3, 1) := by decide +kernel
theorem dX9_explainAmongTakers_56 : decode cX9_explainAmongTakers 56 = .ok (.ishl, 1) := by decide +kernel
theorem dX9_explainAmongTakers_57 : decode cX9_explainAmongTakers 57 = .ok (.iconst (-1), 1) := by decide +kernel
theorem dX9_explainAmongTakers_58 : decode cX9_explainAmongTakers 58 = .ok (.ixor, 1) := by decide +kernel
theorem dX9_explainAmongTakers_59 : decode cX9_explainAmongTakers 59 = .ok (.iand, 1) := by decide +kernel
theorem dX9_explainAmongTakers_60 : decode cX9_explainAmongTakers 60 = .ok (.aload_n 2, 1) := by decide +kernel
theorem dX9_explainAmongTakers_61 : decode cX9_explainAmongTakers 61 = .ok (.iload_n 3, 1) := by decide +kernel
theorem dX9_explainAmongTakers_62 : decode cX9_explainAmongTakers 62 = .ok (.invokevirtual 292, 3) := by decide +kernel
theorem dX9_explainAmongTakers_65 : decode cX9_explainAmongTakers 65 = .ok (.iconst (-1), 1) := by decide +kernel
theorem dX9_explainAmongTakers_66 : decode cX9_explainAmongTakers 66 = .ok (.ixor, 1) := by decide +kernel
theorem dX9_explainAmongTakers_67 : decode cX9_explainAmongTakers 67 = .ok (.iand, 1) := by decide +kernel
theorem dX9_explainAmongTakers_68 : decode cX9_explainAmongTakers 68 = .ok (.istore 6, 2) := by decide +kernel
theorem dX9_explainAmongTakers_70 : decode cX9_explainAmongTakers 70 = .ok (.iload 6, 2) := by decide +kernel
theorem dX9_explainAmongTakers_72 : decode cX9_explainAmongTakers 72 = .ok (.ifCond .eq 19, 3) := by decide +kernel
theorem dX9_explainAmongTakers_75 : decode cX9_explainAmongTakers 75 = .ok (.aload_n 0, 1) := by decide +kernel
theorem dX9_explainAmongTakers_76 : decode cX9_explainAmongTakers 76 = .ok (.aload_n 2, 1) := by decide +kernel
theorem dX9_explainAmongTakers_77 : decode cX9_explainAmongTakers 77 = .ok (.iload 6, 2) := by decide +kernel
theorem dX9_explainAmongTakers_79 : decode cX9_explainAmongTakers 79 = .ok (.iconst 0, 1) := by decide +kernel
theorem dX9_explainAmongTakers_80 : decode cX9_explainAmongTakers 80 = .ok (.invokestatic 236, 3) := by decide +kernel
theorem dX9_explainAmongTakers_83 : decode cX9_explainAmongTakers 83 = .ok (.invokevirtual 198, 3) := by decide +kernel
theorem dX9_explainAmongTakers_86 : decode cX9_explainAmongTakers 86 = .ok (.putfield 70, 3) := by decide +kernel
theorem dX9_explainAmongTakers_89 : decode cX9_explainAmongTakers 89 = .ok (.iconst 5, 1) := by decide +kernel
theorem dX9_explainAmongTakers_90 : decode cX9_explainAmongTakers 90 = .ok (.ireturn, 1) := by decide +kernel
theorem dX9_explainAmongTakers_91 : decode cX9_explainAmongTakers 91 = .ok (.iconst 0, 1) := by decide +kernel
theorem dX9_explainAmongTakers_92 : decode cX9_explainAmongTakers 92 = .ok (.ireturn, 1) := by decide +kernel
set_option maxRecDepth 20000 in
theorem ggX9_carryOut_X9_isBarred : GoodIn wsX9_carryOut wsX9_isBarred := goodIn_r _ [8, 3, 9, 10, 11, 1, 12, 13, 14, 15, 16, 17, 18, 19, 20, 21, 22, 23, 24, 25, 26, 27, 28, 29, 30, 31, 32, 33, 34, 35, 36, 37, 38, 39, 40, 41, 42, 43, 44, 45, 46, 47, 48, 49, 50, 51, 52, 53, 54, 55, 56, 57, 58, 59, 60, 61, 62, 63, 64, 65, 66, 67, 68, 69, 183, 184, 185, 186, 187, 188, 189, 190, 191, 192, 193, 194, 201, 202, 203, 204, 205, 206, 207, 208, 209, 210, 211, 212, 213, 214, 215, 216, 217, 218, 219, 220, 221, 222, 223, 224, 225, 226, 227, 195, 196, 197, 198, 199, 200] (by decide +kernel) (by decide +kernel)
set_option maxRecDepth 20000 in
theorem gX9_carryOut_X9_isBarred : GoodIn wsX9_carryOut (wsV RX9 295 RX9 yX9_isBarred wsX9_isBarred) := goodIn_app (goodIn_of _ (by decide +kernel)) ggX9_carryOut_X9_isBarred
set_option maxRecDepth 20000 in
theorem ggX9_carryOut_X1_lookForRow : GoodIn wsX9_carryOut wsX1_lookForRow := goodIn_r _ [73, 28, 29, 27, 74, 75, 76, 77, 24, 78, 79, 26, 34, 80, 81, 82, 83, 84, 85, 86, 87, 88, 89, 90, 91, 92, 93, 94, 95, 96, 97, 98, 99, 100, 101, 102, 103, 104, 105, 220, 221, 222, 201, 202, 203, 204, 205, 206, 207, 208, 209, 210, 211, 212, 213, 214, 215, 216, 217, 218, 219, 228, 229, 230, 231, 232, 233, 234] (by decide +kernel) (by decide +kernel)
set_option maxRecDepth 20000 in
theorem gX9_carryOut_X1_lookForRow : GoodIn wsX9_carryOut (wsV RX9 298 RX1 yX1_lookForRow wsX1_lookForRow) := goodIn_app (goodIn_of _ (by decide +kernel)) ggX9_carryOut_X1_lookForRow
set_option maxRecDepth 20000 in
theorem ggX9_carryOut_X1_plainTakersOf : GoodIn wsX9_carryOut wsX1_plainTakersOf := goodIn_r _ [109, 110, 111, 22, 23, 24, 25, 26, 27, 28, 29, 30, 31, 32, 33, 34, 35, 36, 37, 38, 39, 40, 41, 42, 43, 44, 45, 46, 47, 48, 49, 50, 51, 52, 53, 54, 55, 56, 57, 58, 201, 202, 203, 204, 205, 206, 207, 208, 209, 210, 220, 221, 222, 211, 212, 213, 214, 215, 216, 217, 218, 219, 223, 224, 225, 226, 227] (by decide +kernel) (by decide +kernel)
set_option maxRecDepth 20000 in
theorem gX9_carryOut_X1_plainTakersOf : GoodIn wsX9_carryOut (wsV RX9 232 RX1 yX1_plainTakersOf wsX1_plainTakersOf) := goodIn_app (goodIn_of _ (by decide +kernel)) ggX9_carryOut_X1_plainTakersOf
set_option maxRecDepth 20000 in
theorem ggX9_carryOut_X9_runChosen : GoodIn wsX9_carryOut wsX9_runChosen := goodIn_r _ [115, 1, 2, 12, 116, 117, 13, 118, 119, 120, 24, 121, 26, 122, 59, 60, 61, 62, 34, 63, 64, 65, 66, 67, 68, 69, 123, 124, 125, 7, 126, 3, 127, 128, 129, 130, 131, 132, 14, 15, 16, 17, 18, 19, 20, 133, 134, 135, 136, 137, 138, 139, 140, 141, 142, 143, 144, 145, 146, 147, 148, 149, 150, 151, 152, 153, 154, 155, 156, 157, 158, 159, 160, 161, 162, 163, 164, 165, 166, 167, 168, 169, 170, 171, 172, 173, 174, 175, 176, 177, 178, 179, 180, 181, 182, 183, 184, 185, 186, 187, 188, 189, 190, 191, 192, 193, 194, 195, 196, 197, 198, 199, 200, 211, 212, 213, 214, 215, 216, 217, 218, 219, 201, 202, 203, 204, 205, 206, 207, 208, 209, 210, 220, 221, 222, 235, 236, 237] (by decide +kernel) (by decide +kernel)
set_option maxRecDepth 20000 in
theorem gX9_carryOut_X9_runChosen : GoodIn wsX9_carryOut (wsV RX9 302 RX9 yX9_runChosen wsX9_runChosen) := goodIn_app (goodIn_of _ (by decide +kernel)) ggX9_carryOut_X9_runChosen
theorem dX9_carryOut_0 : decode cX9_carryOut 0 = .ok (.aload_n 0, 1) := by decide +kernel
theorem dX9_carryOut_1 : decode cX9_carryOut 1 = .ok (.aload_n 1, 1) := by decide +kernel
theorem dX9_carryOut_2 : decode cX9_carryOut 2 = .ok (.invokevirtual 295, 3) := by decide +kernel
theorem dX9_carryOut_5 : decode cX9_carryOut 5 = .ok (.ifCond .eq 13, 3) := by decide +kernel
theorem dX9_carryOut_8 : decode cX9_carryOut 8 = .ok (.aload_n 0, 1) := by decide +kernel
theorem dX9_carryOut_9 : decode cX9_carryOut 9 = .ok (.getfield 52, 3) := by decide +kernel
theorem dX9_carryOut_12 : decode cX9_carryOut 12 = .ok (.iconst 5, 1) := by decide +kernel
theorem dX9_carryOut_13 : decode cX9_carryOut 13 = .ok (.putfield 216, 3) := by decide +kernel
theorem dX9_carryOut_16 : decode cX9_carryOut 16 = .ok (.aconst_null, 1) := by decide +kernel
theorem dX9_carryOut_17 : decode cX9_carryOut 17 = .ok (.areturn, 1) := by decide +kernel
theorem dX9_carryOut_18 : decode cX9_carryOut 18 = .ok (.aload_n 1, 1) := by decide +kernel
theorem dX9_carryOut_19 : decode cX9_carryOut 19 = .ok (.aload_n 0, 1) := by decide +kernel
theorem dX9_carryOut_20 : decode cX9_carryOut 20 = .ok (.getfield 45, 3) := by decide +kernel
theorem dX9_carryOut_23 : decode cX9_carryOut 23 = .ok (.invokevirtual 298, 3) := by decide +kernel
theorem dX9_carryOut_26 : decode cX9_carryOut 26 = .ok (.aload_n 1, 1) := by decide +kernel
theorem dX9_carryOut_27 : decode cX9_carryOut 27 = .ok (.aload_n 0, 1) := by decide +kernel
theorem dX9_carryOut_28 : decode cX9_carryOut 28 = .ok (.getfield 45, 3) := by decide +kernel
theorem dX9_carryOut_31 : decode cX9_carryOut 31 = .ok (.invokevirtual 232, 3) := by decide +kernel
theorem dX9_carryOut_34 : decode cX9_carryOut 34 = .ok (.istore_n 2, 1) := by decide +kernel
theorem dX9_carryOut_35 : decode cX9_carryOut 35 = .ok (.iload_n 2, 1) := by decide +kernel
theorem dX9_carryOut_36 : decode cX9_carryOut 36 = .ok (.ifCond .ne 13, 3) := by decide +kernel
theorem dX9_carryOut_39 : decode cX9_carryOut 39 = .ok (.aload_n 0, 1) := by decide +kernel
theorem dX9_carryOut_40 : decode cX9_carryOut 40 = .ok (.getfield 52, 3) := by decide +kernel
theorem dX9_carryOut_43 : decode cX9_carryOut 43 = .ok (.iconst 1, 1) := by decide +kernel
theorem dX9_carryOut_44 : decode cX9_carryOut 44 = .ok (.putfield 216, 3) := by decide +kernel
theorem dX9_carryOut_47 : decode cX9_carryOut 47 = .ok (.aconst_null, 1) := by decide +kernel
theorem dX9_carryOut_48 : decode cX9_carryOut 48 = .ok (.areturn, 1) := by decide +kernel
theorem dX9_carryOut_49 : decode cX9_carryOut 49 = .ok (.aload_n 0, 1) := by decide +kernel
theorem dX9_carryOut_50 : decode cX9_carryOut 50 = .ok (.aload_n 1, 1) := by decide +kernel
theorem dX9_carryOut_51 : decode cX9_carryOut 51 = .ok (.iload_n 2, 1) := by decide +kernel
theorem dX9_carryOut_52 : decode cX9_carryOut 52 = .ok (.invokevirtual 302, 3) := by decide +kernel
theorem dX9_carryOut_55 : decode cX9_carryOut 55 = .ok (.areturn, 1) := by decide +kernel
set_option maxRecDepth 20000 in
theorem ggX9_isBarred_X6_weightTogether : GoodIn wsX9_isBarred wsX6_weightTogether := goodIn_r _ [12, 13, 14, 95, 96, 97] (by decide +kernel) (by decide +kernel)
set_option maxRecDepth 20000 in
theorem gX9_isBarred_X6_weightTogether : GoodIn wsX9_isBarred (wsV RX9 306 RX6 yX6_weightTogether wsX6_weightTogether) := goodIn_app (goodIn_of _ (by decide +kernel)) ggX9_isBarred_X6_weightTogether
set_option maxRecDepth 20000 in
theorem ggX9_isBarred_X1_takersOf : GoodIn wsX9_isBarred wsX1_takersOf := goodIn_r _ [19, 20, 21, 22, 23, 24, 25, 26, 18, 27, 28, 29, 30, 31, 32, 33, 34, 35, 36, 37, 38, 39, 40, 41, 42, 43, 44, 45, 46, 47, 48, 49, 50, 51, 52, 76, 77, 78, 79, 80, 81, 82, 83, 84, 85, 95, 96, 97, 86, 87, 88, 89, 90, 91, 92, 93, 94, 98, 99, 100, 101, 102] (by decide +kernel) (by decide +kernel)
set_option maxRecDepth 20000 in
theorem gX9_isBarred_X1_takersOf : GoodIn wsX9_isBarred (wsV RX9 310 RX1 yX1_takersOf wsX1_takersOf) := goodIn_app (goodIn_of _ (by decide +kernel)) ggX9_isBarred_X1_takersOf
set_option maxRecDepth 20000 in
theorem ggX9_isBarred_X1_laidAt : GoodIn wsX9_isBarred wsX1_laidAt := goodIn_r _ [56, 20, 28, 76, 77, 78, 79, 80, 81, 82, 83, 84, 85] (by decide +kernel) (by decide +kernel)
set_option maxRecDepth 20000 in
theorem gX9_isBarred_X1_laidAt : GoodIn wsX9_isBarred (wsV RX9 313 RX1 yX1_laidAt wsX1_laidAt) := goodIn_app (goodIn_of _ (by decide +kernel)) ggX9_isBarred_X1_laidAt
set_option maxRecDepth 20000 in
theorem ggX9_isBarred_X3_addStep : GoodIn wsX9_isBarred wsX3_addStep := goodIn_r _ [61, 62, 63, 103, 104, 105, 106, 107, 108] (by decide +kernel) (by decide +kernel)
set_option maxRecDepth 20000 in
theorem gX9_isBarred_X3_addStep : GoodIn wsX9_isBarred (wsV RX9 317 RX3 yX3_addStep wsX3_addStep) := goodIn_app (goodIn_of _ (by decide +kernel)) ggX9_isBarred_X3_addStep
theorem dX9_isBarred_0 : decode cX9_isBarred 0 = .ok (.aload_n 0, 1) := by decide +kernel
theorem dX9_isBarred_1 : decode cX9_isBarred 1 = .ok (.getfield 45, 3) := by decide +kernel
theorem dX9_isBarred_4 : decode cX9_isBarred 4 = .ok (.invokevirtual 306, 3) := by decide +kernel
theorem dX9_isBarred_7 : decode cX9_isBarred 7 = .ok (.lstore_n 2, 1) := by decide +kernel
theorem dX9_isBarred_8 : decode cX9_isBarred 8 = .ok (.aload_n 1, 1) := by decide +kernel
theorem dX9_isBarred_9 : decode cX9_isBarred 9 = .ok (.aload_n 0, 1) := by decide +kernel
theorem dX9_isBarred_10 : decode cX9_isBarred 10 = .ok (.getfield 45, 3) := by decide +kernel
theorem dX9_isBarred_13 : decode cX9_isBarred 13 = .ok (.invokevirtual 310, 3) := by decide +kernel
theorem dX9_isBarred_16 : decode cX9_isBarred 16 = .ok (.istore 4, 2) := by decide +kernel
theorem dX9_isBarred_18 : decode cX9_isBarred 18 = .ok (.iconst 0, 1) := by decide +kernel
theorem dX9_isBarred_19 : decode cX9_isBarred 19 = .ok (.istore 5, 2) := by decide +kernel
theorem dX9_isBarred_21 : decode cX9_isBarred 21 = .ok (.iload 5, 2) := by decide +kernel
theorem dX9_isBarred_23 : decode cX9_isBarred 23 = .ok (.aload_n 1, 1) := by decide +kernel
theorem dX9_isBarred_24 : decode cX9_isBarred 24 = .ok (.getfield 192, 3) := by decide +kernel
theorem dX9_isBarred_27 : decode cX9_isBarred 27 = .ok (.if_icmp .ge 75, 3) := by decide +kernel
theorem dX9_isBarred_30 : decode cX9_isBarred 30 = .ok (.aload_n 1, 1) := by decide +kernel
theorem dX9_isBarred_31 : decode cX9_isBarred 31 = .ok (.aload_n 1, 1) := by decide +kernel
theorem dX9_isBarred_32 : decode cX9_isBarred 32 = .ok (.getfield 195, 3) := by decide +kernel
theorem dX9_isBarred_35 : decode cX9_isBarred 35 = .ok (.iload 5, 2) := by decide +kernel
theorem dX9_isBarred_37 : decode cX9_isBarred 37 = .ok (.iaload, 1) := by decide +kernel
theorem dX9_isBarred_38 : decode cX9_isBarred 38 = .ok (.invokevirtual 313, 3) := by decide +kernel
theorem dX9_isBarred_41 : decode cX9_isBarred 41 = .ok (.astore 6, 2) := by decide +kernel
theorem dX9_isBarred_43 : decode cX9_isBarred 43 = .ok (.aload 6, 2) := by decide +kernel
theorem dX9_isBarred_45 : decode cX9_isBarred 45 = .ok (.ifnull 51, 3) := by decide +kernel
theorem dX9_isBarred_48 : decode cX9_isBarred 48 = .ok (.aload 6, 2) := by decide +kernel
theorem dX9_isBarred_50 : decode cX9_isBarred 50 = .ok (.getfield 182, 3) := by decide +kernel
theorem dX9_isBarred_53 : decode cX9_isBarred 53 = .ok (.ifCond .eq 43, 3) := by decide +kernel
theorem dX9_isBarred_56 : decode cX9_isBarred 56 = .ok (.iload 4, 2) := by decide +kernel
theorem dX9_isBarred_58 : decode cX9_isBarred 58 = .ok (.iconst 1, 1) := by decide +kernel
theorem dX9_isBarred_59 : decode cX9_isBarred 59 = .ok (.aload_n 1, 1) := by decide +kernel
theorem dX9_isBarred_60 : decode cX9_isBarred 60 = .ok (.getfield 195, 3) := by decide +kernel
theorem dX9_isBarred_63 : decode cX9_isBarred 63 = .ok (.iload 5, 2) := by decide +kernel
theorem dX9_isBarred_65 : decode cX9_isBarred 65 = .ok (.iaload, 1) := by decide +kernel
theorem dX9_isBarred_66 : decode cX9_isBarred 66 = .ok (.ishl, 1) := by decide +kernel
theorem dX9_isBarred_67 : decode cX9_isBarred 67 = .ok (.iand, 1) := by decide +kernel
theorem dX9_isBarred_68 : decode cX9_isBarred 68 = .ok (.ifCond .eq 28, 3) := by decide +kernel
theorem dX9_isBarred_71 : decode cX9_isBarred 71 = .ok (.aload_n 0, 1) := by decide +kernel
theorem dX9_isBarred_72 : decode cX9_isBarred 72 = .ok (.getfield 52, 3) := by decide +kernel
theorem dX9_isBarred_75 : decode cX9_isBarred 75 = .ok (.aload 6, 2) := by decide +kernel
theorem dX9_isBarred_77 : decode cX9_isBarred 77 = .ok (.getfield 316, 3) := by decide +kernel
theorem dX9_isBarred_80 : decode cX9_isBarred 80 = .ok (.invokevirtual 317, 3) := by decide +kernel
theorem dX9_isBarred_83 : decode cX9_isBarred 83 = .ok (.lload_n 2, 1) := by decide +kernel
theorem dX9_isBarred_84 : decode cX9_isBarred 84 = .ok (.aload 6, 2) := by decide +kernel
theorem dX9_isBarred_86 : decode cX9_isBarred 86 = .ok (.getfield 179, 3) := by decide +kernel
theorem dX9_isBarred_89 : decode cX9_isBarred 89 = .ok (.i2l, 1) := by decide +kernel
theorem dX9_isBarred_90 : decode cX9_isBarred 90 = .ok (.lcmp, 1) := by decide +kernel
theorem dX9_isBarred_91 : decode cX9_isBarred 91 = .ok (.ifCond .ge 5, 3) := by decide +kernel
theorem dX9_isBarred_94 : decode cX9_isBarred 94 = .ok (.iconst 1, 1) := by decide +kernel
theorem dX9_isBarred_95 : decode cX9_isBarred 95 = .ok (.ireturn, 1) := by decide +kernel
theorem dX9_isBarred_96 : decode cX9_isBarred 96 = .ok (.iinc 5 1, 3) := by decide +kernel
theorem dX9_isBarred_99 : decode cX9_isBarred 99 = .ok (.goto (-78), 3) := by decide +kernel
theorem dX9_isBarred_102 : decode cX9_isBarred 102 = .ok (.iconst 0, 1) := by decide +kernel
theorem dX9_isBarred_103 : decode cX9_isBarred 103 = .ok (.ireturn, 1) := by decide +kernel
set_option maxRecDepth 20000 in
theorem ggX9_runChosen_X1_chosenOf : GoodIn wsX9_runChosen wsX1_chosenOf := goodIn_r _ [11, 12, 13, 122, 123, 124, 125, 126, 127, 128, 129, 130, 131] (by decide +kernel) (by decide +kernel)
set_option maxRecDepth 20000 in
theorem gX9_runChosen_X1_chosenOf : GoodIn wsX9_runChosen (wsV RX9 239 RX1 yX1_chosenOf wsX1_chosenOf) := goodIn_app (goodIn_of _ (by decide +kernel)) ggX9_runChosen_X1_chosenOf
set_option maxRecDepth 20000 in
theorem ggX9_runChosen_X1_laidAt : GoodIn wsX9_runChosen wsX1_laidAt := goodIn_r _ [17, 12, 18, 122, 123, 124, 125, 126, 127, 128, 129, 130, 131] (by decide +kernel) (by decide +kernel)
set_option maxRecDepth 20000 in
theorem gX9_runChosen_X1_laidAt : GoodIn wsX9_runChosen (wsV RX9 313 RX1 yX1_laidAt wsX1_laidAt) := goodIn_app (goodIn_of _ (by decide +kernel)) ggX9_runChosen_X1_laidAt
set_option maxRecDepth 20000 in
theorem ggX9_runChosen_X3_addStep : GoodIn wsX9_runChosen wsX3_addStep := goodIn_r _ [23, 24, 25, 107, 108, 109, 110, 111, 112] (by decide +kernel) (by decide +kernel)
set_option maxRecDepth 20000 in
theorem gX9_runChosen_X3_addStep : GoodIn wsX9_runChosen (wsV RX9 317 RX3 yX3_addStep wsX3_addStep) := goodIn_app (goodIn_of _ (by decide +kernel)) ggX9_runChosen_X3_addStep
set_option maxRecDepth 20000 in
theorem ggX9_runChosen_X9_act : GoodIn wsX9_runChosen wsX9_act := goodIn_r _ [30, 4, 1, 6, 31, 32, 33, 34, 22, 35, 36, 37, 38, 39, 40, 41, 42, 43, 44, 45, 46, 47, 48, 49, 50, 51, 52, 53, 54, 55, 56, 29, 57, 58, 59, 60, 61, 62, 63, 64, 65, 66, 67, 68, 69, 70, 71, 72, 73, 74, 75, 76, 77, 78, 79, 5, 80, 81, 82, 83, 84, 85, 86, 87, 88, 89, 90, 113, 114, 115, 116, 117, 118, 119, 120, 121, 95, 96, 97, 98, 99, 100, 101, 102, 103, 104, 105, 106, 107, 108, 109, 110, 111, 112, 132, 133, 134, 135, 136, 137, 122, 123, 124, 125, 126, 127, 128, 129, 130, 131] (by decide +kernel) (by decide +kernel)
set_option maxRecDepth 20000 in
theorem gX9_runChosen_X9_act : GoodIn wsX9_runChosen (wsV RX9 321 RX9 yX9_act wsX9_act) := goodIn_app (goodIn_of _ (by decide +kernel)) ggX9_runChosen_X9_act
set_option maxRecDepth 20000 in
theorem ggX9_runChosen_X1_beatenBy : GoodIn wsX9_runChosen wsX1_beatenBy := goodIn_r _ [94, 12, 13, 122, 123, 124, 125, 126, 127, 128, 129, 130, 131] (by decide +kernel) (by decide +kernel)
set_option maxRecDepth 20000 in
theorem gX9_runChosen_X1_beatenBy : GoodIn wsX9_runChosen (wsV RX9 292 RX1 yX1_beatenBy wsX1_beatenBy) := goodIn_app (goodIn_of _ (by decide +kernel)) ggX9_runChosen_X1_beatenBy
theorem dX9_runChosen_0 : decode cX9_runChosen 0 = .ok (.iload_n 2, 1) := by decide +kernel
theorem dX9_runChosen_1 : decode cX9_runChosen 1 = .ok (.istore_n 3, 1) := by decide +kernel
theorem dX9_runChosen_2 : decode cX9_runChosen 2 = .ok (.iconst 0, 1) := by decide +kernel
theorem dX9_runChosen_3 : decode cX9_runChosen 3 = .ok (.istore 4, 2) := by decide +kernel
theorem dX9_runChosen_5 : decode cX9_runChosen 5 = .ok (.iload 4, 2) := by decide +kernel
theorem dX9_runChosen_7 : decode cX9_runChosen 7 = .ok (.bipush 8, 2) := by decide +kernel
theorem dX9_runChosen_9 : decode cX9_runChosen 9 = .ok (.if_icmp .ge 101, 3) := by decide +kernel
theorem dX9_runChosen_12 : decode cX9_runChosen 12 = .ok (.aload_n 1, 1) := by decide +kernel
theorem dX9_runChosen_13 : decode cX9_runChosen 13 = .ok (.iload_n 3, 1) := by decide +kernel
theorem dX9_runChosen_14 : decode cX9_runChosen 14 = .ok (.invokevirtual 239, 3) := by decide +kernel
theorem dX9_runChosen_17 : decode cX9_runChosen 17 = .ok (.istore 5, 2) := by decide +kernel
theorem dX9_runChosen_19 : decode cX9_runChosen 19 = .ok (.aload_n 1, 1) := by decide +kernel
theorem dX9_runChosen_20 : decode cX9_runChosen 20 = .ok (.iload 5, 2) := by decide +kernel
theorem dX9_runChosen_22 : decode cX9_runChosen 22 = .ok (.invokevirtual 313, 3) := by decide +kernel
theorem dX9_runChosen_25 : decode cX9_runChosen 25 = .ok (.astore 6, 2) := by decide +kernel
theorem dX9_runChosen_27 : decode cX9_runChosen 27 = .ok (.aload 6, 2) := by decide +kernel
theorem dX9_runChosen_29 : decode cX9_runChosen 29 = .ok (.ifnonnull 13, 3) := by decide +kernel
theorem dX9_runChosen_32 : decode cX9_runChosen 32 = .ok (.aload_n 0, 1) := by decide +kernel
theorem dX9_runChosen_33 : decode cX9_runChosen 33 = .ok (.getfield 52, 3) := by decide +kernel
theorem dX9_runChosen_36 : decode cX9_runChosen 36 = .ok (.iconst 2, 1) := by decide +kernel
theorem dX9_runChosen_37 : decode cX9_runChosen 37 = .ok (.putfield 216, 3) := by decide +kernel
theorem dX9_runChosen_40 : decode cX9_runChosen 40 = .ok (.aconst_null, 1) := by decide +kernel
theorem dX9_runChosen_41 : decode cX9_runChosen 41 = .ok (.areturn, 1) := by decide +kernel
theorem dX9_runChosen_42 : decode cX9_runChosen 42 = .ok (.aload_n 0, 1) := by decide +kernel
theorem dX9_runChosen_43 : decode cX9_runChosen 43 = .ok (.getfield 52, 3) := by decide +kernel
theorem dX9_runChosen_46 : decode cX9_runChosen 46 = .ok (.aload 6, 2) := by decide +kernel
theorem dX9_runChosen_48 : decode cX9_runChosen 48 = .ok (.getfield 316, 3) := by decide +kernel
theorem dX9_runChosen_51 : decode cX9_runChosen 51 = .ok (.invokevirtual 317, 3) := by decide +kernel
theorem dX9_runChosen_54 : decode cX9_runChosen 54 = .ok (.aload 6, 2) := by decide +kernel
theorem dX9_runChosen_56 : decode cX9_runChosen 56 = .ok (.getfield 176, 3) := by decide +kernel
theorem dX9_runChosen_59 : decode cX9_runChosen 59 = .ok (.iconst 2, 1) := by decide +kernel
theorem dX9_runChosen_60 : decode cX9_runChosen 60 = .ok (.if_icmp .eq 10, 3) := by decide +kernel
theorem dX9_runChosen_63 : decode cX9_runChosen 63 = .ok (.aload_n 0, 1) := by decide +kernel
theorem dX9_runChosen_64 : decode cX9_runChosen 64 = .ok (.aload 6, 2) := by decide +kernel
theorem dX9_runChosen_66 : decode cX9_runChosen 66 = .ok (.invokevirtual 321, 3) := by decide +kernel
theorem dX9_runChosen_69 : decode cX9_runChosen 69 = .ok (.areturn, 1) := by decide +kernel
theorem dX9_runChosen_70 : decode cX9_runChosen 70 = .ok (.aload_n 0, 1) := by decide +kernel
theorem dX9_runChosen_71 : decode cX9_runChosen 71 = .ok (.getfield 52, 3) := by decide +kernel
theorem dX9_runChosen_74 : decode cX9_runChosen 74 = .ok (.dup, 1) := by decide +kernel
theorem dX9_runChosen_75 : decode cX9_runChosen 75 = .ok (.getfield 219, 3) := by decide +kernel
theorem dX9_runChosen_78 : decode cX9_runChosen 78 = .ok (.aload 6, 2) := by decide +kernel
theorem dX9_runChosen_80 : decode cX9_runChosen 80 = .ok (.getfield 179, 3) := by decide +kernel
theorem dX9_runChosen_83 : decode cX9_runChosen 83 = .ok (.i2l, 1) := by decide +kernel
theorem dX9_runChosen_84 : decode cX9_runChosen 84 = .ok (.ladd, 1) := by decide +kernel
theorem dX9_runChosen_85 : decode cX9_runChosen 85 = .ok (.putfield 219, 3) := by decide +kernel
theorem dX9_runChosen_88 : decode cX9_runChosen 88 = .ok (.iload_n 2, 1) := by decide +kernel
theorem dX9_runChosen_89 : decode cX9_runChosen 89 = .ok (.aload_n 1, 1) := by decide +kernel
theorem dX9_runChosen_90 : decode cX9_runChosen 90 = .ok (.iload 5, 2) := by decide +kernel
theorem dX9_runChosen_92 : decode cX9_runChosen 92 = .ok (.invokevirtual 292, 3) := by decide +kernel
theorem dX9_runChosen_95 : decode cX9_runChosen 95 = .ok (.iand, 1) := by decide +kernel
theorem dX9_runChosen_96 : decode cX9_runChosen 96 = .ok (.istore_n 3, 1) := by decide +kernel
theorem dX9_runChosen_97 : decode cX9_runChosen 97 = .ok (.iload_n 3, 1) := by decide +kernel
theorem dX9_runChosen_98 : decode cX9_runChosen 98 = .ok (.ifCond .ne 6, 3) := by decide +kernel
theorem dX9_runChosen_101 : decode cX9_runChosen 101 = .ok (.goto 9, 3) := by decide +kernel
theorem dX9_runChosen_104 : decode cX9_runChosen 104 = .ok (.iinc 4 1, 3) := by decide +kernel
theorem dX9_runChosen_107 : decode cX9_runChosen 107 = .ok (.goto (-102), 3) := by decide +kernel
theorem dX9_runChosen_110 : decode cX9_runChosen 110 = .ok (.aload_n 0, 1) := by decide +kernel
theorem dX9_runChosen_111 : decode cX9_runChosen 111 = .ok (.getfield 52, 3) := by decide +kernel
theorem dX9_runChosen_114 : decode cX9_runChosen 114 = .ok (.iconst 0, 1) := by decide +kernel
theorem dX9_runChosen_115 : decode cX9_runChosen 115 = .ok (.putfield 216, 3) := by decide +kernel
theorem dX9_runChosen_118 : decode cX9_runChosen 118 = .ok (.aconst_null, 1) := by decide +kernel
theorem dX9_runChosen_119 : decode cX9_runChosen 119 = .ok (.areturn, 1) := by decide +kernel
set_option maxRecDepth 20000 in
theorem ggX9_act_X3_endWithValue : GoodIn wsX9_act wsX3_endWithValue := goodIn_r _ [9, 10, 11, 88, 89, 90, 91, 92, 93] (by decide +kernel) (by decide +kernel)
set_option maxRecDepth 20000 in
theorem gX9_act_X3_endWithValue : GoodIn wsX9_act (wsV RX9 325 RX3 yX3_endWithValue wsX3_endWithValue) := goodIn_app (goodIn_of _ (by decide +kernel)) ggX9_act_X3_endWithValue
set_option maxRecDepth 20000 in
theorem ggX9_act_X6_weightTogether : GoodIn wsX9_act wsX6_weightTogether := goodIn_r _ [16, 17, 18, 94, 95, 96] (by decide +kernel) (by decide +kernel)
set_option maxRecDepth 20000 in
theorem gX9_act_X6_weightTogether : GoodIn wsX9_act (wsV RX9 306 RX6 yX6_weightTogether wsX6_weightTogether) := goodIn_app (goodIn_of _ (by decide +kernel)) ggX9_act_X6_weightTogether
set_option maxRecDepth 20000 in
theorem ggX9_act_X3_endWithFailure : GoodIn wsX9_act wsX3_endWithFailure := goodIn_r _ [22, 10, 23, 88, 89, 90, 91, 92, 93] (by decide +kernel) (by decide +kernel)
set_option maxRecDepth 20000 in
theorem gX9_act_X3_endWithFailure : GoodIn wsX9_act (wsV RX9 329 RX3 yX3_endWithFailure wsX3_endWithFailure) := goodIn_app (goodIn_of _ (by decide +kernel)) ggX9_act_X3_endWithFailure
set_option maxRecDepth 20000 in
theorem ggX9_act_J9_floorMod_7cf53 : GoodIn wsX9_act wsJ9_floorMod_7cf53 := goodIn_r _ [27] (by decide +kernel) (by decide +kernel)
set_option maxRecDepth 20000 in
theorem gX9_act_J9_floorMod_7cf53 : GoodIn wsX9_act (va_wsS RX9 332 yJ9_floorMod_7cf53 wsJ9_floorMod_7cf53) := goodIn_app (goodIn_of _ (by decide +kernel)) ggX9_act_J9_floorMod_7cf53
set_option maxRecDepth 20000 in
theorem ggX9_act_X9_countUp : GoodIn wsX9_act wsX9_countUp := goodIn_r _ [32, 33, 76, 77, 78, 79, 80, 81, 82, 83, 84, 85, 86, 87] (by decide +kernel) (by decide +kernel)
set_option maxRecDepth 20000 in
theorem gX9_act_X9_countUp : GoodIn wsX9_act (wsV RX9 337 RX9 yX9_countUp wsX9_countUp) := goodIn_app (goodIn_of _ (by decide +kernel)) ggX9_act_X9_countUp
set_option maxRecDepth 20000 in
theorem ggX9_act_X9_bringSample : GoodIn wsX9_act wsX9_bringSample := goodIn_r _ [37, 38, 4, 39, 40, 2, 41, 42, 43, 44, 45, 46, 47, 48, 19, 20, 21, 8, 22, 10, 23, 5, 6, 7, 9, 11, 76, 77, 78, 79, 80, 81, 82, 83, 84, 85, 86, 87, 94, 95, 96, 97, 98, 99, 88, 89, 90, 91, 92, 93] (by decide +kernel) (by decide +kernel)
set_option maxRecDepth 20000 in
theorem gX9_act_X9_bringSample : GoodIn wsX9_act (wsV RX9 340 RX9 yX9_bringSample wsX9_bringSample) := goodIn_app (goodIn_of _ (by decide +kernel)) ggX9_act_X9_bringSample
set_option maxRecDepth 20000 in
theorem ggX9_act_X9_calledWithin : GoodIn wsX9_act wsX9_calledWithin := goodIn_r _ [52, 3, 53, 4, 54, 2, 55, 24, 25, 26, 27, 56, 57, 58, 31, 59, 60, 61, 19, 20, 21, 8, 22, 10, 23, 67, 68, 69, 70, 71, 72, 73, 74, 75, 100, 101, 102, 103, 104, 105, 106, 107, 108, 109, 76, 77, 78, 79, 80, 81, 82, 83, 84, 85, 86, 87, 94, 95, 96, 88, 89, 90, 91, 92, 93] (by decide +kernel) (by decide +kernel)
set_option maxRecDepth 20000 in
theorem gX9_act_X9_calledWithin : GoodIn wsX9_act (wsV RX9 343 RX9 yX9_calledWithin wsX9_calledWithin) := goodIn_app (goodIn_of _ (by decide +kernel)) ggX9_act_X9_calledWithin
set_option maxRecDepth 20000 in
theorem ggX9_act_X6_turnRound : GoodIn wsX9_act wsX6_turnRound := goodIn_r _ [65, 17, 66, 18, 94, 95, 96] (by decide +kernel) (by decide +kernel)
set_option maxRecDepth 20000 in
theorem gX9_act_X6_turnRound : GoodIn wsX9_act (wsV RX9 346 RX6 yX6_turnRound wsX6_turnRound) := goodIn_app (goodIn_of _ (by decide +kernel)) ggX9_act_X6_turnRound
theorem dX9_act_0 : decode cX9_act 0 = .ok (.aload_n 1, 1) := by decide +kernel
theorem dX9_act_1 : decode cX9_act 1 = .ok (.getfield 176, 3) := by decide +kernel
theorem dX9_act_4 : decode cX9_act 4 = .ok (.tableswitch 132 0 6 #[44, 58, 132, 80, 93, 116, 126], 44) := by decide +kernel
theorem dX9_act_48 : decode cX9_act 48 = .ok (.aload_n 0, 1) := by decide +kernel
theorem dX9_act_49 : decode cX9_act 49 = .ok (.getfield 52, 3) := by decide +kernel
theorem dX9_act_52 : decode cX9_act 52 = .ok (.aload_n 1, 1) := by decide +kernel
theorem dX9_act_53 : decode cX9_act 53 = .ok (.getfield 179, 3) := by decide +kernel
theorem dX9_act_56 : decode cX9_act 56 = .ok (.i2l, 1) := by decide +kernel
theorem dX9_act_57 : decode cX9_act 57 = .ok (.invokevirtual 325, 3) := by decide +kernel
theorem dX9_act_60 : decode cX9_act 60 = .ok (.aconst_null, 1) := by decide +kernel
theorem dX9_act_61 : decode cX9_act 61 = .ok (.areturn, 1) := by decide +kernel
theorem dX9_act_62 : decode cX9_act 62 = .ok (.aload_n 0, 1) := by decide +kernel
theorem dX9_act_63 : decode cX9_act 63 = .ok (.getfield 52, 3) := by decide +kernel
theorem dX9_act_66 : decode cX9_act 66 = .ok (.aload_n 0, 1) := by decide +kernel
theorem dX9_act_67 : decode cX9_act 67 = .ok (.getfield 45, 3) := by decide +kernel
theorem dX9_act_70 : decode cX9_act 70 = .ok (.invokevirtual 306, 3) := by decide +kernel
theorem dX9_act_73 : decode cX9_act 73 = .ok (.aload_n 1, 1) := by decide +kernel
theorem dX9_act_74 : decode cX9_act 74 = .ok (.getfield 179, 3) := by decide +kernel
theorem dX9_act_77 : decode cX9_act 77 = .ok (.i2l, 1) := by decide +kernel
theorem dX9_act_78 : decode cX9_act 78 = .ok (.ladd, 1) := by decide +kernel
theorem dX9_act_79 : decode cX9_act 79 = .ok (.invokevirtual 325, 3) := by decide +kernel
theorem dX9_act_82 : decode cX9_act 82 = .ok (.aconst_null, 1) := by decide +kernel
theorem dX9_act_83 : decode cX9_act 83 = .ok (.areturn, 1) := by decide +kernel
theorem dX9_act_84 : decode cX9_act 84 = .ok (.aload_n 0, 1) := by decide +kernel
theorem dX9_act_85 : decode cX9_act 85 = .ok (.getfield 52, 3) := by decide +kernel
theorem dX9_act_88 : decode cX9_act 88 = .ok (.aload_n 1, 1) := by decide +kernel
theorem dX9_act_89 : decode cX9_act 89 = .ok (.getfield 179, 3) := by decide +kernel
theorem dX9_act_92 : decode cX9_act 92 = .ok (.invokevirtual 329, 3) := by decide +kernel
theorem dX9_act_95 : decode cX9_act 95 = .ok (.aconst_null, 1) := by decide +kernel
theorem dX9_act_96 : decode cX9_act 96 = .ok (.areturn, 1) := by decide +kernel
theorem dX9_act_97 : decode cX9_act 97 = .ok (.aload_n 0, 1) := by decide +kernel
theorem dX9_act_98 : decode cX9_act 98 = .ok (.getfield 52, 3) := by decide +kernel
theorem dX9_act_101 : decode cX9_act 101 = .ok (.aload_n 0, 1) := by decide +kernel
theorem dX9_act_102 : decode cX9_act 102 = .ok (.aload_n 1, 1) := by decide +kernel
theorem dX9_act_103 : decode cX9_act 103 = .ok (.getfield 179, 3) := by decide +kernel
theorem dX9_act_106 : decode cX9_act 106 = .ok (.bipush 8, 2) := by decide +kernel
theorem dX9_act_108 : decode cX9_act 108 = .ok (.invokestatic 332, 3) := by decide +kernel
theorem dX9_act_111 : decode cX9_act 111 = .ok (.invokevirtual 337, 3) := by decide +kernel
theorem dX9_act_114 : decode cX9_act 114 = .ok (.i2l, 1) := by decide +kernel
theorem dX9_act_115 : decode cX9_act 115 = .ok (.invokevirtual 325, 3) := by decide +kernel
theorem dX9_act_118 : decode cX9_act 118 = .ok (.aconst_null, 1) := by decide +kernel
theorem dX9_act_119 : decode cX9_act 119 = .ok (.areturn, 1) := by decide +kernel
theorem dX9_act_120 : decode cX9_act 120 = .ok (.aload_n 0, 1) := by decide +kernel
theorem dX9_act_121 : decode cX9_act 121 = .ok (.aload_n 1, 1) := by decide +kernel
theorem dX9_act_122 : decode cX9_act 122 = .ok (.getfield 179, 3) := by decide +kernel
theorem dX9_act_125 : decode cX9_act 125 = .ok (.invokevirtual 340, 3) := by decide +kernel
theorem dX9_act_128 : decode cX9_act 128 = .ok (.aconst_null, 1) := by decide +kernel
theorem dX9_act_129 : decode cX9_act 129 = .ok (.areturn, 1) := by decide +kernel
theorem dX9_act_130 : decode cX9_act 130 = .ok (.aload_n 0, 1) := by decide +kernel
theorem dX9_act_131 : decode cX9_act 131 = .ok (.aload_n 1, 1) := by decide +kernel
theorem dX9_act_132 : decode cX9_act 132 = .ok (.invokevirtual 343, 3) := by decide +kernel
theorem dX9_act_135 : decode cX9_act 135 = .ok (.areturn, 1) := by decide +kernel
theorem dX9_act_136 : decode cX9_act 136 = .ok (.aload_n 0, 1) := by decide +kernel
theorem dX9_act_137 : decode cX9_act 137 = .ok (.getfield 45, 3) := by decide +kernel
theorem dX9_act_140 : decode cX9_act 140 = .ok (.invokevirtual 346, 3) := by decide +kernel
theorem dX9_act_143 : decode cX9_act 143 = .ok (.aload_n 0, 1) := by decide +kernel
theorem dX9_act_144 : decode cX9_act 144 = .ok (.aload_n 1, 1) := by decide +kernel
theorem dX9_act_145 : decode cX9_act 145 = .ok (.invokevirtual 343, 3) := by decide +kernel
theorem dX9_act_148 : decode cX9_act 148 = .ok (.areturn, 1) := by decide +kernel
theorem dX9_countUp_0 : decode cX9_countUp 0 = .ok (.aload_n 0, 1) := by decide +kernel
theorem dX9_countUp_1 : decode cX9_countUp 1 = .ok (.getfield 39, 3) := by decide +kernel
theorem dX9_countUp_4 : decode cX9_countUp 4 = .ok (.iload_n 1, 1) := by decide +kernel
theorem dX9_countUp_5 : decode cX9_countUp 5 = .ok (.dup2, 1) := by decide +kernel
theorem dX9_countUp_6 : decode cX9_countUp 6 = .ok (.iaload, 1) := by decide +kernel
theorem dX9_countUp_7 : decode cX9_countUp 7 = .ok (.iconst 1, 1) := by decide +kernel
theorem dX9_countUp_8 : decode cX9_countUp 8 = .ok (.iadd, 1) := by decide +kernel
theorem dX9_countUp_9 : decode cX9_countUp 9 = .ok (.iastore, 1) := by decide +kernel
theorem dX9_countUp_10 : decode cX9_countUp 10 = .ok (.aload_n 0, 1) := by decide +kernel
theorem dX9_countUp_11 : decode cX9_countUp 11 = .ok (.getfield 39, 3) := by decide +kernel
theorem dX9_countUp_14 : decode cX9_countUp 14 = .ok (.iload_n 1, 1) := by decide +kernel
theorem dX9_countUp_15 : decode cX9_countUp 15 = .ok (.iaload, 1) := by decide +kernel
theorem dX9_countUp_16 : decode cX9_countUp 16 = .ok (.ireturn, 1) := by decide +kernel
set_option maxRecDepth 20000 in
theorem ggX9_bringSample_X7_bring : GoodIn wsX9_bringSample wsX7_bring := goodIn_r _ [10, 11, 12, 13, 41, 42, 43] (by decide +kernel) (by decide +kernel)
set_option maxRecDepth 20000 in
theorem gX9_bringSample_X7_bring : GoodIn wsX9_bringSample (wsV RX9 111 RX7 yX7_bring wsX7_bring) := goodIn_app (goodIn_of _ (by decide +kernel)) ggX9_bringSample_X7_bring
set_option maxRecDepth 20000 in
theorem ggX9_bringSample_X3_endWithFailure : GoodIn wsX9_bringSample wsX3_endWithFailure := goodIn_r _ [18, 19, 20, 44, 45, 46, 47, 48, 49] (by decide +kernel) (by decide +kernel)
set_option maxRecDepth 20000 in
theorem gX9_bringSample_X3_endWithFailure : GoodIn wsX9_bringSample (wsV RX9 329 RX3 yX3_endWithFailure wsX3_endWithFailure) := goodIn_app (goodIn_of _ (by decide +kernel)) ggX9_bringSample_X3_endWithFailure
set_option maxRecDepth 20000 in
theorem ggX9_bringSample_X3_endWithValue : GoodIn wsX9_bringSample wsX3_endWithValue := goodIn_r _ [24, 19, 25, 44, 45, 46, 47, 48, 49] (by decide +kernel) (by decide +kernel)
set_option maxRecDepth 20000 in
theorem gX9_bringSample_X3_endWithValue : GoodIn wsX9_bringSample (wsV RX9 325 RX3 yX3_endWithValue wsX3_endWithValue) := goodIn_app (goodIn_of _ (by decide +kernel)) ggX9_bringSample_X3_endWithValue
theorem dX9_bringSample_0 : decode cX9_bringSample 0 = .ok (.aload_n 0, 1) := by decide +kernel
theorem dX9_bringSample_1 : decode cX9_bringSample 1 = .ok (.getfield 19, 3) := by decide +kernel
theorem dX9_bringSample_4 : decode cX9_bringSample 4 = .ok (.aload_n 0, 1) := by decide +kernel
theorem dX9_bringSample_5 : decode cX9_bringSample 5 = .ok (.getfield 45, 3) := by decide +kernel
theorem dX9_bringSample_8 : decode cX9_bringSample 8 = .ok (.getfield 283, 3) := by decide +kernel
theorem dX9_bringSample_11 : decode cX9_bringSample 11 = .ok (.iconst 0, 1) := by decide +kernel
theorem dX9_bringSample_12 : decode cX9_bringSample 12 = .ok (.iaload, 1) := by decide +kernel
theorem dX9_bringSample_13 : decode cX9_bringSample 13 = .ok (.aload_n 0, 1) := by decide +kernel
theorem dX9_bringSample_14 : decode cX9_bringSample 14 = .ok (.getfield 45, 3) := by decide +kernel
theorem dX9_bringSample_17 : decode cX9_bringSample 17 = .ok (.getfield 284, 3) := by decide +kernel
theorem dX9_bringSample_20 : decode cX9_bringSample 20 = .ok (.iconst 0, 1) := by decide +kernel
theorem dX9_bringSample_21 : decode cX9_bringSample 21 = .ok (.iaload, 1) := by decide +kernel
theorem dX9_bringSample_22 : decode cX9_bringSample 22 = .ok (.iload_n 1, 1) := by decide +kernel
theorem dX9_bringSample_23 : decode cX9_bringSample 23 = .ok (.iadd, 1) := by decide +kernel
theorem dX9_bringSample_24 : decode cX9_bringSample 24 = .ok (.invokevirtual 111, 3) := by decide +kernel
theorem dX9_bringSample_27 : decode cX9_bringSample 27 = .ok (.istore_n 2, 1) := by decide +kernel
theorem dX9_bringSample_28 : decode cX9_bringSample 28 = .ok (.iload_n 2, 1) := by decide +kernel
theorem dX9_bringSample_29 : decode cX9_bringSample 29 = .ok (.iconst (-1), 1) := by decide +kernel
theorem dX9_bringSample_30 : decode cX9_bringSample 30 = .ok (.if_icmp .ne 14, 3) := by decide +kernel
theorem dX9_bringSample_33 : decode cX9_bringSample 33 = .ok (.aload_n 0, 1) := by decide +kernel
theorem dX9_bringSample_34 : decode cX9_bringSample 34 = .ok (.getfield 52, 3) := by decide +kernel
theorem dX9_bringSample_37 : decode cX9_bringSample 37 = .ok (.iconst (-1), 1) := by decide +kernel
theorem dX9_bringSample_38 : decode cX9_bringSample 38 = .ok (.invokevirtual 329, 3) := by decide +kernel
theorem dX9_bringSample_41 : decode cX9_bringSample 41 = .ok (.goto 12, 3) := by decide +kernel
theorem dX9_bringSample_44 : decode cX9_bringSample 44 = .ok (.aload_n 0, 1) := by decide +kernel
theorem dX9_bringSample_45 : decode cX9_bringSample 45 = .ok (.getfield 52, 3) := by decide +kernel
theorem dX9_bringSample_48 : decode cX9_bringSample 48 = .ok (.iload_n 2, 1) := by decide +kernel
theorem dX9_bringSample_49 : decode cX9_bringSample 49 = .ok (.i2l, 1) := by decide +kernel
theorem dX9_bringSample_50 : decode cX9_bringSample 50 = .ok (.invokevirtual 325, 3) := by decide +kernel
theorem dX9_bringSample_53 : decode cX9_bringSample 53 = .ok (.return_, 1) := by decide +kernel
set_option maxRecDepth 20000 in
theorem ggX9_calledWithin_J9_floorMod_7cf53 : GoodIn wsX9_calledWithin wsJ9_floorMod_7cf53 := goodIn_r _ [10] (by decide +kernel) (by decide +kernel)
set_option maxRecDepth 20000 in
theorem gX9_calledWithin_J9_floorMod_7cf53 : GoodIn wsX9_calledWithin (va_wsS RX9 332 yJ9_floorMod_7cf53 wsJ9_floorMod_7cf53) := goodIn_app (goodIn_of _ (by decide +kernel)) ggX9_calledWithin_J9_floorMod_7cf53
set_option maxRecDepth 20000 in
theorem ggX9_calledWithin_X9_functionAt : GoodIn wsX9_calledWithin wsX9_functionAt := goodIn_r _ [15, 16, 17, 44, 45, 46, 47, 48, 49, 50, 51, 52, 53, 54, 55] (by decide +kernel) (by decide +kernel)
set_option maxRecDepth 20000 in
theorem gX9_calledWithin_X9_functionAt : GoodIn wsX9_calledWithin (wsV RX9 129 RX9 yX9_functionAt wsX9_functionAt) := goodIn_app (goodIn_of _ (by decide +kernel)) ggX9_calledWithin_X9_functionAt
set_option maxRecDepth 20000 in
theorem ggX9_calledWithin_X3_endWithFailure : GoodIn wsX9_calledWithin wsX3_endWithFailure := goodIn_r _ [22, 23, 24, 59, 60, 61, 62, 63, 64] (by decide +kernel) (by decide +kernel)
set_option maxRecDepth 20000 in
theorem gX9_calledWithin_X3_endWithFailure : GoodIn wsX9_calledWithin (wsV RX9 329 RX3 yX3_endWithFailure wsX3_endWithFailure) := goodIn_app (goodIn_of _ (by decide +kernel)) ggX9_calledWithin_X3_endWithFailure
theorem dX9_calledWithin_0 : decode cX9_calledWithin 0 = .ok (.aload_n 0, 1) := by decide +kernel
theorem dX9_calledWithin_1 : decode cX9_calledWithin 1 = .ok (.aload_n 1, 1) := by decide +kernel
theorem dX9_calledWithin_2 : decode cX9_calledWithin 2 = .ok (.getfield 179, 3) := by decide +kernel
theorem dX9_calledWithin_5 : decode cX9_calledWithin 5 = .ok (.iconst 4, 1) := by decide +kernel
theorem dX9_calledWithin_6 : decode cX9_calledWithin 6 = .ok (.invokestatic 332, 3) := by decide +kernel
theorem dX9_calledWithin_9 : decode cX9_calledWithin 9 = .ok (.invokevirtual 129, 3) := by decide +kernel
theorem dX9_calledWithin_12 : decode cX9_calledWithin 12 = .ok (.astore_n 2, 1) := by decide +kernel
theorem dX9_calledWithin_13 : decode cX9_calledWithin 13 = .ok (.aload_n 2, 1) := by decide +kernel
theorem dX9_calledWithin_14 : decode cX9_calledWithin 14 = .ok (.ifnull 17, 3) := by decide +kernel
theorem dX9_calledWithin_17 : decode cX9_calledWithin 17 = .ok (.aload_n 2, 1) := by decide +kernel
theorem dX9_calledWithin_18 : decode cX9_calledWithin 18 = .ok (.getfield 252, 3) := by decide +kernel
theorem dX9_calledWithin_21 : decode cX9_calledWithin 21 = .ok (.aload_n 0, 1) := by decide +kernel
theorem dX9_calledWithin_22 : decode cX9_calledWithin 22 = .ok (.getfield 45, 3) := by decide +kernel
theorem dX9_calledWithin_25 : decode cX9_calledWithin 25 = .ok (.getfield 285, 3) := by decide +kernel
theorem dX9_calledWithin_28 : decode cX9_calledWithin 28 = .ok (.if_icmp .eq 14, 3) := by decide +kernel
theorem dX9_calledWithin_31 : decode cX9_calledWithin 31 = .ok (.aload_n 0, 1) := by decide +kernel
theorem dX9_calledWithin_32 : decode cX9_calledWithin 32 = .ok (.getfield 52, 3) := by decide +kernel
theorem dX9_calledWithin_35 : decode cX9_calledWithin 35 = .ok (.bipush (-2), 2) := by decide +kernel
theorem dX9_calledWithin_37 : decode cX9_calledWithin 37 = .ok (.invokevirtual 329, 3) := by decide +kernel
theorem dX9_calledWithin_40 : decode cX9_calledWithin 40 = .ok (.aconst_null, 1) := by decide +kernel
theorem dX9_calledWithin_41 : decode cX9_calledWithin 41 = .ok (.areturn, 1) := by decide +kernel
theorem dX9_calledWithin_42 : decode cX9_calledWithin 42 = .ok (.aload_n 0, 1) := by decide +kernel
theorem dX9_calledWithin_43 : decode cX9_calledWithin 43 = .ok (.getfield 52, 3) := by decide +kernel
theorem dX9_calledWithin_46 : decode cX9_calledWithin 46 = .ok (.dup, 1) := by decide +kernel
theorem dX9_calledWithin_47 : decode cX9_calledWithin 47 = .ok (.getfield 219, 3) := by decide +kernel
theorem dX9_calledWithin_50 : decode cX9_calledWithin 50 = .ok (.lconst 1, 1) := by decide +kernel
theorem dX9_calledWithin_51 : decode cX9_calledWithin 51 = .ok (.ladd, 1) := by decide +kernel
theorem dX9_calledWithin_52 : decode cX9_calledWithin 52 = .ok (.putfield 219, 3) := by decide +kernel
theorem dX9_calledWithin_55 : decode cX9_calledWithin 55 = .ok (.aload_n 2, 1) := by decide +kernel
theorem dX9_calledWithin_56 : decode cX9_calledWithin 56 = .ok (.areturn, 1) := by decide +kernel
