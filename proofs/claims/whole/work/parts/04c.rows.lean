theorem dX10_arg_24 : decode cX10_arg 24 = .ok (.aload_n 0, 1) := by decide +kernel
theorem dX10_arg_25 : decode cX10_arg 25 = .ok (.getfield 72, 3) := by decide +kernel
theorem dX10_arg_28 : decode cX10_arg 28 = .ok (.iload_n 1, 1) := by decide +kernel
theorem dX10_arg_29 : decode cX10_arg 29 = .ok (.iload_n 2, 1) := by decide +kernel
theorem dX10_arg_30 : decode cX10_arg 30 = .ok (.iastore, 1) := by decide +kernel
theorem dX10_arg_31 : decode cX10_arg 31 = .ok (.iconst 1, 1) := by decide +kernel
theorem dX10_arg_32 : decode cX10_arg 32 = .ok (.ireturn, 1) := by decide +kernel
theorem dX10_note_0 : decode cX10_note 0 = .ok (.aload_n 0, 1) := by decide +kernel
theorem dX10_note_1 : decode cX10_note 1 = .ok (.getfield 180, 3) := by decide +kernel
theorem dX10_note_4 : decode cX10_note 4 = .ok (.sipush 1000, 3) := by decide +kernel
theorem dX10_note_7 : decode cX10_note 7 = .ok (.if_icmp .ge 13, 3) := by decide +kernel
theorem dX10_note_10 : decode cX10_note 10 = .ok (.aload_n 0, 1) := by decide +kernel
theorem dX10_note_11 : decode cX10_note 11 = .ok (.getfield 79, 3) := by decide +kernel
theorem dX10_note_14 : decode cX10_note 14 = .ok (.aload_n 0, 1) := by decide +kernel
theorem dX10_note_15 : decode cX10_note 15 = .ok (.getfield 180, 3) := by decide +kernel
theorem dX10_note_18 : decode cX10_note 18 = .ok (.iload_n 1, 1) := by decide +kernel
theorem dX10_note_19 : decode cX10_note 19 = .ok (.iastore, 1) := by decide +kernel
theorem dX10_note_20 : decode cX10_note 20 = .ok (.aload_n 0, 1) := by decide +kernel
theorem dX10_note_21 : decode cX10_note 21 = .ok (.dup, 1) := by decide +kernel
theorem dX10_note_22 : decode cX10_note 22 = .ok (.getfield 180, 3) := by decide +kernel
theorem dX10_note_25 : decode cX10_note 25 = .ok (.iconst 1, 1) := by decide +kernel
theorem dX10_note_26 : decode cX10_note 26 = .ok (.iadd, 1) := by decide +kernel
theorem dX10_note_27 : decode cX10_note 27 = .ok (.putfield 180, 3) := by decide +kernel
theorem dX10_note_30 : decode cX10_note 30 = .ok (.return_, 1) := by decide +kernel
theorem dX10_weight_0 : decode cX10_weight 0 = .ok (.aload_n 0, 1) := by decide +kernel
theorem dX10_weight_1 : decode cX10_weight 1 = .ok (.getfield 85, 3) := by decide +kernel
theorem dX10_weight_4 : decode cX10_weight 4 = .ok (.iconst 0, 1) := by decide +kernel
theorem dX10_weight_5 : decode cX10_weight 5 = .ok (.laload, 1) := by decide +kernel
theorem dX10_weight_6 : decode cX10_weight 6 = .ok (.aload_n 0, 1) := by decide +kernel
theorem dX10_weight_7 : decode cX10_weight 7 = .ok (.getfield 29, 3) := by decide +kernel
theorem dX10_weight_10 : decode cX10_weight 10 = .ok (.iload_n 1, 1) := by decide +kernel
theorem dX10_weight_11 : decode cX10_weight 11 = .ok (.iaload, 1) := by decide +kernel
theorem dX10_weight_12 : decode cX10_weight 12 = .ok (.iconst 2, 1) := by decide +kernel
theorem dX10_weight_13 : decode cX10_weight 13 = .ok (.if_icmp .ne 12, 3) := by decide +kernel
theorem dX10_weight_16 : decode cX10_weight 16 = .ok (.aload_n 0, 1) := by decide +kernel
theorem dX10_weight_17 : decode cX10_weight 17 = .ok (.getfield 85, 3) := by decide +kernel
theorem dX10_weight_20 : decode cX10_weight 20 = .ok (.iconst 1, 1) := by decide +kernel
theorem dX10_weight_21 : decode cX10_weight 21 = .ok (.laload, 1) := by decide +kernel
theorem dX10_weight_22 : decode cX10_weight 22 = .ok (.goto 4, 3) := by decide +kernel
theorem dX10_weight_25 : decode cX10_weight 25 = .ok (.lconst 0, 1) := by decide +kernel
theorem dX10_weight_26 : decode cX10_weight 26 = .ok (.ladd, 1) := by decide +kernel
theorem dX10_weight_27 : decode cX10_weight 27 = .ok (.lreturn, 1) := by decide +kernel
set_option maxRecDepth 20000 in
theorem ggX10_isBarred_X10_laid : GoodIn wsX10_isBarred wsX10_laid := goodIn_r _ [7, 8, 9, 10, 11, 6, 12, 13, 14, 61, 62, 63, 64, 65, 66, 67, 68, 69, 70, 71, 72, 73, 74, 75, 76, 77, 78, 79, 80, 81, 82, 83, 84, 85, 86, 87, 88, 89, 90, 91, 92, 93, 94, 95, 96, 97, 98, 99] (by decide +kernel) (by decide +kernel)
set_option maxRecDepth 20000 in
theorem gX10_isBarred_X10_laid : GoodIn wsX10_isBarred (wsV RX10 155 RX10 yX10_laid wsX10_laid) := goodIn_app (goodIn_of _ (by decide +kernel)) ggX10_isBarred_X10_laid
set_option maxRecDepth 20000 in
theorem ggX10_isBarred_X10_inOrder : GoodIn wsX10_isBarred wsX10_inOrder := goodIn_r _ [18, 8, 19, 9, 10, 11, 6, 12, 13, 14, 20, 21, 22, 23, 24, 25, 26, 27, 28, 29, 30, 31, 32, 33, 34, 35, 36, 37, 38, 39, 40, 61, 62, 63, 64, 65, 66, 67, 68, 69, 70, 71, 72, 73, 74, 75, 76, 77, 78, 79, 80, 81, 82, 83, 84, 85, 86, 87, 88, 89, 90, 91, 92, 93, 94, 95, 96, 97, 98, 99] (by decide +kernel) (by decide +kernel)
set_option maxRecDepth 20000 in
theorem gX10_isBarred_X10_inOrder : GoodIn wsX10_isBarred (wsV RX10 162 RX10 yX10_inOrder wsX10_inOrder) := goodIn_app (goodIn_of _ (by decide +kernel)) ggX10_isBarred_X10_inOrder
set_option maxRecDepth 20000 in
theorem ggX10_isBarred_X10_takes : GoodIn wsX10_isBarred wsX10_takes := goodIn_r _ [44, 24, 13, 45, 46, 47, 6, 48, 29, 49, 50, 30, 31, 32, 33, 34, 35, 36, 61, 62, 63, 64, 65, 66, 67, 68, 69, 70, 71, 72, 73, 74, 75, 76, 77, 78, 79, 80, 81, 82, 83, 84, 85, 86, 87, 88, 89, 90, 91, 92, 93, 94, 95, 96, 97, 98, 99] (by decide +kernel) (by decide +kernel)
set_option maxRecDepth 20000 in
theorem gX10_isBarred_X10_takes : GoodIn wsX10_isBarred (wsV RX10 168 RX10 yX10_takes wsX10_takes) := goodIn_app (goodIn_of _ (by decide +kernel)) ggX10_isBarred_X10_takes
set_option maxRecDepth 20000 in
theorem ggX10_isBarred_X10_note : GoodIn wsX10_isBarred wsX10_note := goodIn_r _ [54, 55, 56, 61, 62, 63, 64, 65, 66, 67, 68, 69, 70, 71, 72, 73, 74, 75, 76, 77, 78, 79, 80, 81, 82, 83, 84, 85, 86, 87, 88, 89, 90, 91, 92, 93, 94, 95, 96, 97, 98, 99] (by decide +kernel) (by decide +kernel)
set_option maxRecDepth 20000 in
theorem gX10_isBarred_X10_note : GoodIn wsX10_isBarred (wsV RX10 183 RX10 yX10_note wsX10_note) := goodIn_app (goodIn_of _ (by decide +kernel)) ggX10_isBarred_X10_note
set_option maxRecDepth 20000 in
theorem ggX10_isBarred_X10_weight : GoodIn wsX10_isBarred wsX10_weight := goodIn_r _ [60, 50, 24, 61, 62, 63, 64, 65, 66, 67, 68, 69, 70, 71, 72, 73, 74, 75, 76, 77, 78, 79, 80, 81, 82, 83, 84, 85, 86, 87, 88, 89, 90, 91, 92, 93, 94, 95, 96, 97, 98, 99] (by decide +kernel) (by decide +kernel)
set_option maxRecDepth 20000 in
theorem gX10_isBarred_X10_weight : GoodIn wsX10_isBarred (wsV RX10 187 RX10 yX10_weight wsX10_weight) := goodIn_app (goodIn_of _ (by decide +kernel)) ggX10_isBarred_X10_weight
theorem dX10_isBarred_0 : decode cX10_isBarred 0 = .ok (.aload_n 0, 1) := by decide +kernel
theorem dX10_isBarred_1 : decode cX10_isBarred 1 = .ok (.iload_n 1, 1) := by decide +kernel
theorem dX10_isBarred_2 : decode cX10_isBarred 2 = .ok (.invokevirtual 155, 3) := by decide +kernel
theorem dX10_isBarred_5 : decode cX10_isBarred 5 = .ok (.istore_n 2, 1) := by decide +kernel
theorem dX10_isBarred_6 : decode cX10_isBarred 6 = .ok (.iconst 0, 1) := by decide +kernel
theorem dX10_isBarred_7 : decode cX10_isBarred 7 = .ok (.istore_n 3, 1) := by decide +kernel
theorem dX10_isBarred_8 : decode cX10_isBarred 8 = .ok (.iload_n 3, 1) := by decide +kernel
theorem dX10_isBarred_9 : decode cX10_isBarred 9 = .ok (.iload_n 2, 1) := by decide +kernel
theorem dX10_isBarred_10 : decode cX10_isBarred 10 = .ok (.if_icmp .ge 61, 3) := by decide +kernel
theorem dX10_isBarred_13 : decode cX10_isBarred 13 = .ok (.aload_n 0, 1) := by decide +kernel
theorem dX10_isBarred_14 : decode cX10_isBarred 14 = .ok (.iload_n 1, 1) := by decide +kernel
theorem dX10_isBarred_15 : decode cX10_isBarred 15 = .ok (.iload_n 3, 1) := by decide +kernel
theorem dX10_isBarred_16 : decode cX10_isBarred 16 = .ok (.invokevirtual 162, 3) := by decide +kernel
theorem dX10_isBarred_19 : decode cX10_isBarred 19 = .ok (.istore 4, 2) := by decide +kernel
theorem dX10_isBarred_21 : decode cX10_isBarred 21 = .ok (.aload_n 0, 1) := by decide +kernel
theorem dX10_isBarred_22 : decode cX10_isBarred 22 = .ok (.getfield 54, 3) := by decide +kernel
theorem dX10_isBarred_25 : decode cX10_isBarred 25 = .ok (.iload 4, 2) := by decide +kernel
theorem dX10_isBarred_27 : decode cX10_isBarred 27 = .ok (.baload, 1) := by decide +kernel
theorem dX10_isBarred_28 : decode cX10_isBarred 28 = .ok (.ifCond .eq 37, 3) := by decide +kernel
theorem dX10_isBarred_31 : decode cX10_isBarred 31 = .ok (.aload_n 0, 1) := by decide +kernel
theorem dX10_isBarred_32 : decode cX10_isBarred 32 = .ok (.iload 4, 2) := by decide +kernel
theorem dX10_isBarred_34 : decode cX10_isBarred 34 = .ok (.invokevirtual 168, 3) := by decide +kernel
theorem dX10_isBarred_37 : decode cX10_isBarred 37 = .ok (.ifCond .eq 28, 3) := by decide +kernel
theorem dX10_isBarred_40 : decode cX10_isBarred 40 = .ok (.aload_n 0, 1) := by decide +kernel
theorem dX10_isBarred_41 : decode cX10_isBarred 41 = .ok (.iload 4, 2) := by decide +kernel
theorem dX10_isBarred_43 : decode cX10_isBarred 43 = .ok (.invokevirtual 183, 3) := by decide +kernel
theorem dX10_isBarred_46 : decode cX10_isBarred 46 = .ok (.aload_n 0, 1) := by decide +kernel
theorem dX10_isBarred_47 : decode cX10_isBarred 47 = .ok (.iload_n 1, 1) := by decide +kernel
theorem dX10_isBarred_48 : decode cX10_isBarred 48 = .ok (.invokevirtual 187, 3) := by decide +kernel
theorem dX10_isBarred_51 : decode cX10_isBarred 51 = .ok (.aload_n 0, 1) := by decide +kernel
theorem dX10_isBarred_52 : decode cX10_isBarred 52 = .ok (.getfield 51, 3) := by decide +kernel
theorem dX10_isBarred_55 : decode cX10_isBarred 55 = .ok (.iload 4, 2) := by decide +kernel
theorem dX10_isBarred_57 : decode cX10_isBarred 57 = .ok (.iaload, 1) := by decide +kernel
theorem dX10_isBarred_58 : decode cX10_isBarred 58 = .ok (.i2l, 1) := by decide +kernel
theorem dX10_isBarred_59 : decode cX10_isBarred 59 = .ok (.lcmp, 1) := by decide +kernel
theorem dX10_isBarred_60 : decode cX10_isBarred 60 = .ok (.ifCond .ge 5, 3) := by decide +kernel
theorem dX10_isBarred_63 : decode cX10_isBarred 63 = .ok (.iconst 1, 1) := by decide +kernel
theorem dX10_isBarred_64 : decode cX10_isBarred 64 = .ok (.ireturn, 1) := by decide +kernel
theorem dX10_isBarred_65 : decode cX10_isBarred 65 = .ok (.iinc 3 1, 3) := by decide +kernel
theorem dX10_isBarred_68 : decode cX10_isBarred 68 = .ok (.goto (-60), 3) := by decide +kernel
theorem dX10_isBarred_71 : decode cX10_isBarred 71 = .ok (.iconst 0, 1) := by decide +kernel
theorem dX10_isBarred_72 : decode cX10_isBarred 72 = .ok (.ireturn, 1) := by decide +kernel
set_option maxRecDepth 20000 in
theorem ggX10_begin_X10_isBarred : GoodIn wsX10_begin wsX10_isBarred := goodIn_r _ [6, 7, 8, 9, 10, 11, 5, 12, 13, 14, 15, 16, 17, 18, 19, 20, 21, 22, 23, 24, 25, 26, 27, 28, 29, 30, 31, 32, 33, 34, 35, 36, 37, 38, 39, 40, 41, 42, 43, 44, 45, 46, 47, 48, 49, 50, 51, 52, 53, 54, 55, 56, 57, 58, 59, 60, 61, 62, 63, 64, 65, 94, 95, 96, 97, 98, 99, 100, 101, 102, 103, 104, 105, 106, 107, 108, 109, 110, 111, 112, 113, 114, 115, 116, 117, 118, 119, 120, 121, 122, 123, 124, 125, 126, 127, 128, 129, 130, 131, 132] (by decide +kernel) (by decide +kernel)
set_option maxRecDepth 20000 in
theorem gX10_begin_X10_isBarred : GoodIn wsX10_begin (wsV RX10 194 RX10 yX10_isBarred wsX10_isBarred) := goodIn_app (goodIn_of _ (by decide +kernel)) ggX10_begin_X10_isBarred
set_option maxRecDepth 20000 in
theorem ggX10_begin_X10_remember : GoodIn wsX10_begin wsX10_remember := goodIn_r _ [69, 54, 29, 70, 71, 72, 73, 74, 75, 5, 76, 77, 13, 35, 36, 55, 14, 15, 16, 17, 18, 19, 94, 95, 96, 97, 98, 99, 100, 101, 102, 103, 104, 105, 106, 107, 108, 109, 110, 111, 112, 113, 114, 115, 116, 117, 118, 119, 120, 121, 122, 123, 124, 125, 126, 127, 128, 129, 130, 131, 132] (by decide +kernel) (by decide +kernel)
set_option maxRecDepth 20000 in
theorem gX10_begin_X10_remember : GoodIn wsX10_begin (wsV RX10 197 RX10 yX10_remember wsX10_remember) := goodIn_app (goodIn_of _ (by decide +kernel)) ggX10_begin_X10_remember
set_option maxRecDepth 20000 in
theorem ggX10_begin_X10_choose : GoodIn wsX10_begin wsX10_choose := goodIn_r _ [81, 82, 83, 84, 5, 85, 13, 86, 87, 88, 89, 7, 14, 15, 16, 17, 18, 19, 46, 47, 48, 49, 29, 50, 51, 52, 53, 34, 54, 55, 35, 36, 37, 38, 39, 40, 41, 25, 26, 27, 28, 30, 31, 32, 33, 42, 43, 44, 45, 90, 91, 92, 93, 94, 95, 96, 97, 98, 99, 100, 101, 102, 103, 104, 105, 106, 107, 108, 109, 110, 111, 112, 113, 114, 115, 116, 117, 118, 119, 120, 121, 122, 123, 124, 125, 126, 127, 128, 129, 130, 131, 132] (by decide +kernel) (by decide +kernel)
set_option maxRecDepth 20000 in
theorem gX10_begin_X10_choose : GoodIn wsX10_begin (wsV RX10 200 RX10 yX10_choose wsX10_choose) := goodIn_app (goodIn_of _ (by decide +kernel)) ggX10_begin_X10_choose
theorem dX10_begin_0 : decode cX10_begin 0 = .ok (.aload_n 0, 1) := by decide +kernel
theorem dX10_begin_1 : decode cX10_begin 1 = .ok (.getfield 191, 3) := by decide +kernel
theorem dX10_begin_4 : decode cX10_begin 4 = .ok (.bipush 12, 2) := by decide +kernel
theorem dX10_begin_6 : decode cX10_begin 6 = .ok (.if_icmp .ne 6, 3) := by decide +kernel
theorem dX10_begin_9 : decode cX10_begin 9 = .ok (.bipush (-6), 2) := by decide +kernel
theorem dX10_begin_11 : decode cX10_begin 11 = .ok (.ireturn, 1) := by decide +kernel
theorem dX10_begin_12 : decode cX10_begin 12 = .ok (.aload_n 0, 1) := by decide +kernel
theorem dX10_begin_13 : decode cX10_begin 13 = .ok (.dup, 1) := by decide +kernel
theorem dX10_begin_14 : decode cX10_begin 14 = .ok (.getfield 191, 3) := by decide +kernel
theorem dX10_begin_17 : decode cX10_begin 17 = .ok (.iconst 1, 1) := by decide +kernel
theorem dX10_begin_18 : decode cX10_begin 18 = .ok (.iadd, 1) := by decide +kernel
theorem dX10_begin_19 : decode cX10_begin 19 = .ok (.putfield 191, 3) := by decide +kernel
theorem dX10_begin_22 : decode cX10_begin 22 = .ok (.aload_n 0, 1) := by decide +kernel
theorem dX10_begin_23 : decode cX10_begin 23 = .ok (.iload_n 1, 1) := by decide +kernel
theorem dX10_begin_24 : decode cX10_begin 24 = .ok (.invokevirtual 194, 3) := by decide +kernel
theorem dX10_begin_27 : decode cX10_begin 27 = .ok (.ifCond .eq 6, 3) := by decide +kernel
theorem dX10_begin_30 : decode cX10_begin 30 = .ok (.bipush (-7), 2) := by decide +kernel
theorem dX10_begin_32 : decode cX10_begin 32 = .ok (.ireturn, 1) := by decide +kernel
theorem dX10_begin_33 : decode cX10_begin 33 = .ok (.aload_n 0, 1) := by decide +kernel
theorem dX10_begin_34 : decode cX10_begin 34 = .ok (.iload_n 1, 1) := by decide +kernel
theorem dX10_begin_35 : decode cX10_begin 35 = .ok (.invokevirtual 197, 3) := by decide +kernel
theorem dX10_begin_38 : decode cX10_begin 38 = .ok (.aload_n 0, 1) := by decide +kernel
theorem dX10_begin_39 : decode cX10_begin 39 = .ok (.iload_n 1, 1) := by decide +kernel
theorem dX10_begin_40 : decode cX10_begin 40 = .ok (.iconst (-1), 1) := by decide +kernel
theorem dX10_begin_41 : decode cX10_begin 41 = .ok (.invokevirtual 200, 3) := by decide +kernel
theorem dX10_begin_44 : decode cX10_begin 44 = .ok (.ireturn, 1) := by decide +kernel
set_option maxRecDepth 20000 in
theorem ggX10_choose_X10_offered : GoodIn wsX10_choose wsX10_offered := goodIn_r _ [5, 6, 7, 8, 9, 4, 10, 11, 12, 13, 14, 15, 16, 17, 18, 19, 20, 21, 22, 23, 24, 25, 26, 27, 28, 29, 30, 31, 32, 33, 34, 35, 36, 37, 38, 39, 40, 41, 42, 43, 44, 45, 46, 47, 48, 53, 54, 55, 56, 57, 58, 59, 60, 61, 62, 63, 64, 65, 66, 67, 68, 69, 70, 71, 72, 73, 74, 75, 76, 77, 78, 79, 80, 81, 82, 83, 84, 85, 86, 87, 88, 89, 90, 91] (by decide +kernel) (by decide +kernel)
set_option maxRecDepth 20000 in
theorem gX10_choose_X10_offered : GoodIn wsX10_choose (wsV RX10 203 RX10 yX10_offered wsX10_offered) := goodIn_app (goodIn_of _ (by decide +kernel)) ggX10_choose_X10_offered
set_option maxRecDepth 20000 in
theorem ggX10_choose_X10_chosen : GoodIn wsX10_choose wsX10_chosen := goodIn_r _ [52, 6, 7, 8, 9, 4, 10, 11, 12, 13, 14, 15, 16, 17, 18, 19, 20, 21, 22, 23, 24, 25, 26, 27, 28, 29, 30, 31, 32, 33, 34, 35, 36, 37, 38, 39, 40, 41, 42, 43, 44, 45, 46, 47, 48, 53, 54, 55, 56, 57, 58, 59, 60, 61, 62, 63, 64, 65, 66, 67, 68, 69, 70, 71, 72, 73, 74, 75, 76, 77, 78, 79, 80, 81, 82, 83, 84, 85, 86, 87, 88, 89, 90, 91] (by decide +kernel) (by decide +kernel)
set_option maxRecDepth 20000 in
theorem gX10_choose_X10_chosen : GoodIn wsX10_choose (wsV RX10 206 RX10 yX10_chosen wsX10_chosen) := goodIn_app (goodIn_of _ (by decide +kernel)) ggX10_choose_X10_chosen
theorem dX10_choose_0 : decode cX10_choose 0 = .ok (.aload_n 0, 1) := by decide +kernel
theorem dX10_choose_1 : decode cX10_choose 1 = .ok (.iload_n 1, 1) := by decide +kernel
theorem dX10_choose_2 : decode cX10_choose 2 = .ok (.iload_n 2, 1) := by decide +kernel
theorem dX10_choose_3 : decode cX10_choose 3 = .ok (.invokevirtual 203, 3) := by decide +kernel
theorem dX10_choose_6 : decode cX10_choose 6 = .ok (.ifCond .ne 6, 3) := by decide +kernel
theorem dX10_choose_9 : decode cX10_choose 9 = .ok (.bipush (-3), 2) := by decide +kernel
theorem dX10_choose_11 : decode cX10_choose 11 = .ok (.ireturn, 1) := by decide +kernel
theorem dX10_choose_12 : decode cX10_choose 12 = .ok (.aload_n 0, 1) := by decide +kernel
theorem dX10_choose_13 : decode cX10_choose 13 = .ok (.iload_n 1, 1) := by decide +kernel
theorem dX10_choose_14 : decode cX10_choose 14 = .ok (.iload_n 2, 1) := by decide +kernel
theorem dX10_choose_15 : decode cX10_choose 15 = .ok (.invokevirtual 206, 3) := by decide +kernel
theorem dX10_choose_18 : decode cX10_choose 18 = .ok (.istore_n 3, 1) := by decide +kernel
theorem dX10_choose_19 : decode cX10_choose 19 = .ok (.iload_n 3, 1) := by decide +kernel
theorem dX10_choose_20 : decode cX10_choose 20 = .ok (.ifCond .ge 8, 3) := by decide +kernel
theorem dX10_choose_23 : decode cX10_choose 23 = .ok (.bipush (-4), 2) := by decide +kernel
theorem dX10_choose_25 : decode cX10_choose 25 = .ok (.goto 4, 3) := by decide +kernel
theorem dX10_choose_28 : decode cX10_choose 28 = .ok (.iload_n 3, 1) := by decide +kernel
theorem dX10_choose_29 : decode cX10_choose 29 = .ok (.ireturn, 1) := by decide +kernel
theorem dX10_fail_0 : decode cX10_fail 0 = .ok (.aload_n 0, 1) := by decide +kernel
theorem dX10_fail_1 : decode cX10_fail 1 = .ok (.iload_n 1, 1) := by decide +kernel
theorem dX10_fail_2 : decode cX10_fail 2 = .ok (.putfield 209, 3) := by decide +kernel
theorem dX10_fail_5 : decode cX10_fail 5 = .ok (.bipush (-5), 2) := by decide +kernel
theorem dX10_fail_7 : decode cX10_fail 7 = .ok (.ireturn, 1) := by decide +kernel
theorem dX10_end_0 : decode cX10_end 0 = .ok (.aload_n 0, 1) := by decide +kernel
theorem dX10_end_1 : decode cX10_end 1 = .ok (.dup, 1) := by decide +kernel
theorem dX10_end_2 : decode cX10_end 2 = .ok (.getfield 212, 3) := by decide +kernel
theorem dX10_end_5 : decode cX10_end 5 = .ok (.lload_n 1, 1) := by decide +kernel
theorem dX10_end_6 : decode cX10_end 6 = .ok (.ladd, 1) := by decide +kernel
theorem dX10_end_7 : decode cX10_end 7 = .ok (.putfield 212, 3) := by decide +kernel
theorem dX10_end_10 : decode cX10_end 10 = .ok (.bipush (-2), 2) := by decide +kernel
theorem dX10_end_12 : decode cX10_end 12 = .ok (.ireturn, 1) := by decide +kernel
theorem dX10_turn_0 : decode cX10_turn 0 = .ok (.aload_n 0, 1) := by decide +kernel
theorem dX10_turn_1 : decode cX10_turn 1 = .ok (.getfield 82, 3) := by decide +kernel
theorem dX10_turn_4 : decode cX10_turn 4 = .ok (.iconst 0, 1) := by decide +kernel
theorem dX10_turn_5 : decode cX10_turn 5 = .ok (.iaload, 1) := by decide +kernel
theorem dX10_turn_6 : decode cX10_turn 6 = .ok (.istore_n 1, 1) := by decide +kernel
theorem dX10_turn_7 : decode cX10_turn 7 = .ok (.aload_n 0, 1) := by decide +kernel
theorem dX10_turn_8 : decode cX10_turn 8 = .ok (.getfield 85, 3) := by decide +kernel
theorem dX10_turn_11 : decode cX10_turn 11 = .ok (.iconst 0, 1) := by decide +kernel
theorem dX10_turn_12 : decode cX10_turn 12 = .ok (.laload, 1) := by decide +kernel
theorem dX10_turn_13 : decode cX10_turn 13 = .ok (.lstore_n 2, 1) := by decide +kernel
theorem dX10_turn_14 : decode cX10_turn 14 = .ok (.aload_n 0, 1) := by decide +kernel
theorem dX10_turn_15 : decode cX10_turn 15 = .ok (.getfield 82, 3) := by decide +kernel
theorem dX10_turn_18 : decode cX10_turn 18 = .ok (.iconst 0, 1) := by decide +kernel
theorem dX10_turn_19 : decode cX10_turn 19 = .ok (.aload_n 0, 1) := by decide +kernel
theorem dX10_turn_20 : decode cX10_turn 20 = .ok (.getfield 82, 3) := by decide +kernel
theorem dX10_turn_23 : decode cX10_turn 23 = .ok (.iconst 1, 1) := by decide +kernel
theorem dX10_turn_24 : decode cX10_turn 24 = .ok (.iaload, 1) := by decide +kernel
theorem dX10_turn_25 : decode cX10_turn 25 = .ok (.iastore, 1) := by decide +kernel
theorem dX10_turn_26 : decode cX10_turn 26 = .ok (.aload_n 0, 1) := by decide +kernel
theorem dX10_turn_27 : decode cX10_turn 27 = .ok (.getfield 85, 3) := by decide +kernel
theorem dX10_turn_30 : decode cX10_turn 30 = .ok (.iconst 0, 1) := by decide +kernel
theorem dX10_turn_31 : decode cX10_turn 31 = .ok (.aload_n 0, 1) := by decide +kernel
theorem dX10_turn_32 : decode cX10_turn 32 = .ok (.getfield 85, 3) := by decide +kernel
theorem dX10_turn_35 : decode cX10_turn 35 = .ok (.iconst 1, 1) := by decide +kernel
theorem dX10_turn_36 : decode cX10_turn 36 = .ok (.laload, 1) := by decide +kernel
theorem dX10_turn_37 : decode cX10_turn 37 = .ok (.lastore, 1) := by decide +kernel
theorem dX10_turn_38 : decode cX10_turn 38 = .ok (.aload_n 0, 1) := by decide +kernel
theorem dX10_turn_39 : decode cX10_turn 39 = .ok (.getfield 82, 3) := by decide +kernel
theorem dX10_turn_42 : decode cX10_turn 42 = .ok (.iconst 1, 1) := by decide +kernel
theorem dX10_turn_43 : decode cX10_turn 43 = .ok (.iload_n 1, 1) := by decide +kernel
theorem dX10_turn_44 : decode cX10_turn 44 = .ok (.iastore, 1) := by decide +kernel
theorem dX10_turn_45 : decode cX10_turn 45 = .ok (.aload_n 0, 1) := by decide +kernel
theorem dX10_turn_46 : decode cX10_turn 46 = .ok (.getfield 85, 3) := by decide +kernel
theorem dX10_turn_49 : decode cX10_turn 49 = .ok (.iconst 1, 1) := by decide +kernel
theorem dX10_turn_50 : decode cX10_turn 50 = .ok (.lload_n 2, 1) := by decide +kernel
theorem dX10_turn_51 : decode cX10_turn 51 = .ok (.lastore, 1) := by decide +kernel
theorem dX10_turn_52 : decode cX10_turn 52 = .ok (.return_, 1) := by decide +kernel
theorem dX10_rest_0 : decode cX10_rest 0 = .ok (.iload_n 0, 1) := by decide +kernel
theorem dX10_rest_1 : decode cX10_rest 1 = .ok (.iload_n 1, 1) := by decide +kernel
theorem dX10_rest_2 : decode cX10_rest 2 = .ok (.irem, 1) := by decide +kernel
theorem dX10_rest_3 : decode cX10_rest 3 = .ok (.istore_n 2, 1) := by decide +kernel
theorem dX10_rest_4 : decode cX10_rest 4 = .ok (.iload_n 2, 1) := by decide +kernel
theorem dX10_rest_5 : decode cX10_rest 5 = .ok (.ifCond .ge 9, 3) := by decide +kernel
theorem dX10_rest_8 : decode cX10_rest 8 = .ok (.iload_n 2, 1) := by decide +kernel
theorem dX10_rest_9 : decode cX10_rest 9 = .ok (.iload_n 1, 1) := by decide +kernel
theorem dX10_rest_10 : decode cX10_rest 10 = .ok (.iadd, 1) := by decide +kernel
theorem dX10_rest_11 : decode cX10_rest 11 = .ok (.goto 4, 3) := by decide +kernel
theorem dX10_rest_14 : decode cX10_rest 14 = .ok (.iload_n 2, 1) := by decide +kernel
theorem dX10_rest_15 : decode cX10_rest 15 = .ok (.ireturn, 1) := by decide +kernel
set_option maxRecDepth 20000 in
theorem ggX10_callOn_X10_rest : GoodIn wsX10_callOn wsX10_rest := goodIn_r _ [8] (by decide +kernel) (by decide +kernel)
set_option maxRecDepth 20000 in
theorem gX10_callOn_X10_rest : GoodIn wsX10_callOn (va_wsS RX10 216 yX10_rest wsX10_rest) := goodIn_app (goodIn_of _ (by decide +kernel)) ggX10_callOn_X10_rest
set_option maxRecDepth 20000 in
theorem ggX10_callOn_X10_isFunction : GoodIn wsX10_callOn wsX10_isFunction := goodIn_r _ [12, 13, 117, 118, 119, 120, 121, 122, 123, 124, 125, 126, 127, 128, 129, 130, 131, 132, 133, 134, 135, 136, 137, 138, 139, 140, 141, 142, 143, 144, 145, 146, 147, 148, 149, 150, 151, 152, 153, 154, 155] (by decide +kernel) (by decide +kernel)
set_option maxRecDepth 20000 in
theorem gX10_callOn_X10_isFunction : GoodIn wsX10_callOn (wsV RX10 134 RX10 yX10_isFunction wsX10_isFunction) := goodIn_app (goodIn_of _ (by decide +kernel)) ggX10_callOn_X10_isFunction
set_option maxRecDepth 20000 in
theorem ggX10_callOn_X10_fail : GoodIn wsX10_callOn wsX10_fail := goodIn_r _ [17, 18, 117, 118, 119, 120, 121, 122, 123, 124, 125, 126, 127, 128, 129, 130, 131, 132, 133, 134, 135, 136, 137, 138, 139, 140, 141, 142, 143, 144, 145, 146, 147, 148, 149, 150, 151, 152, 153, 154, 155] (by decide +kernel) (by decide +kernel)
set_option maxRecDepth 20000 in
theorem gX10_callOn_X10_fail : GoodIn wsX10_callOn (wsV RX10 219 RX10 yX10_fail wsX10_fail) := goodIn_app (goodIn_of _ (by decide +kernel)) ggX10_callOn_X10_fail
set_option maxRecDepth 20000 in
theorem ggX10_callOn_X10_turn : GoodIn wsX10_callOn wsX10_turn := goodIn_r _ [22, 23, 24, 117, 118, 119, 120, 121, 122, 123, 124, 125, 126, 127, 128, 129, 130, 131, 132, 133, 134, 135, 136, 137, 138, 139, 140, 141, 142, 143, 144, 145, 146, 147, 148, 149, 150, 151, 152, 153, 154, 155] (by decide +kernel) (by decide +kernel)
set_option maxRecDepth 20000 in
theorem gX10_callOn_X10_turn : GoodIn wsX10_callOn (wsV RX10 222 RX10 yX10_turn wsX10_turn) := goodIn_app (goodIn_of _ (by decide +kernel)) ggX10_callOn_X10_turn
set_option maxRecDepth 20000 in
theorem ggX10_callOn_X10_begin : GoodIn wsX10_callOn wsX10_begin := goodIn_r _ [28, 29, 30, 31, 32, 7, 33, 34, 1, 35, 36, 37, 38, 39, 40, 41, 42, 43, 44, 45, 46, 47, 48, 49, 50, 51, 52, 53, 54, 2, 55, 56, 57, 58, 59, 60, 61, 62, 63, 64, 65, 66, 67, 68, 69, 70, 71, 72, 73, 74, 75, 76, 77, 78, 23, 24, 79, 80, 81, 82, 83, 84, 85, 86, 87, 88, 89, 90, 91, 92, 93, 94, 95, 96, 97, 98, 99, 100, 101, 102, 103, 104, 105, 106, 107, 108, 109, 110, 111, 112, 113, 114, 115, 116, 117, 118, 119, 120, 121, 122, 123, 124, 125, 126, 127, 128, 129, 130, 131, 132, 133, 134, 135, 136, 137, 138, 139, 140, 141, 142, 143, 144, 145, 146, 147, 148, 149, 150, 151, 152, 153, 154, 155] (by decide +kernel) (by decide +kernel)
set_option maxRecDepth 20000 in
theorem gX10_callOn_X10_begin : GoodIn wsX10_callOn (wsV RX10 225 RX10 yX10_begin wsX10_begin) := goodIn_app (goodIn_of _ (by decide +kernel)) ggX10_callOn_X10_begin
theorem dX10_callOn_0 : decode cX10_callOn 0 = .ok (.aload_n 0, 1) := by decide +kernel
theorem dX10_callOn_1 : decode cX10_callOn 1 = .ok (.getfield 51, 3) := by decide +kernel
theorem dX10_callOn_4 : decode cX10_callOn 4 = .ok (.iload_n 2, 1) := by decide +kernel
theorem dX10_callOn_5 : decode cX10_callOn 5 = .ok (.iaload, 1) := by decide +kernel
theorem dX10_callOn_6 : decode cX10_callOn 6 = .ok (.iconst 4, 1) := by decide +kernel
theorem dX10_callOn_7 : decode cX10_callOn 7 = .ok (.invokestatic 216, 3) := by decide +kernel
theorem dX10_callOn_10 : decode cX10_callOn 10 = .ok (.istore_n 3, 1) := by decide +kernel
theorem dX10_callOn_11 : decode cX10_callOn 11 = .ok (.aload_n 0, 1) := by decide +kernel
theorem dX10_callOn_12 : decode cX10_callOn 12 = .ok (.iload_n 3, 1) := by decide +kernel
theorem dX10_callOn_13 : decode cX10_callOn 13 = .ok (.invokevirtual 134, 3) := by decide +kernel
theorem dX10_callOn_16 : decode cX10_callOn 16 = .ok (.ifCond .eq 18, 3) := by decide +kernel
theorem dX10_callOn_19 : decode cX10_callOn 19 = .ok (.aload_n 0, 1) := by decide +kernel
theorem dX10_callOn_20 : decode cX10_callOn 20 = .ok (.getfield 29, 3) := by decide +kernel
theorem dX10_callOn_23 : decode cX10_callOn 23 = .ok (.iload_n 3, 1) := by decide +kernel
theorem dX10_callOn_24 : decode cX10_callOn 24 = .ok (.iaload, 1) := by decide +kernel
theorem dX10_callOn_25 : decode cX10_callOn 25 = .ok (.aload_n 0, 1) := by decide +kernel
theorem dX10_callOn_26 : decode cX10_callOn 26 = .ok (.getfield 29, 3) := by decide +kernel
theorem dX10_callOn_29 : decode cX10_callOn 29 = .ok (.iload_n 1, 1) := by decide +kernel
theorem dX10_callOn_30 : decode cX10_callOn 30 = .ok (.iaload, 1) := by decide +kernel
theorem dX10_callOn_31 : decode cX10_callOn 31 = .ok (.if_icmp .eq 10, 3) := by decide +kernel
theorem dX10_callOn_34 : decode cX10_callOn 34 = .ok (.aload_n 0, 1) := by decide +kernel
theorem dX10_callOn_35 : decode cX10_callOn 35 = .ok (.bipush (-2), 2) := by decide +kernel
theorem dX10_callOn_37 : decode cX10_callOn 37 = .ok (.invokevirtual 219, 3) := by decide +kernel
theorem dX10_callOn_40 : decode cX10_callOn 40 = .ok (.ireturn, 1) := by decide +kernel
theorem dX10_callOn_41 : decode cX10_callOn 41 = .ok (.aload_n 0, 1) := by decide +kernel
theorem dX10_callOn_42 : decode cX10_callOn 42 = .ok (.getfield 48, 3) := by decide +kernel
theorem dX10_callOn_45 : decode cX10_callOn 45 = .ok (.iload_n 2, 1) := by decide +kernel
theorem dX10_callOn_46 : decode cX10_callOn 46 = .ok (.iaload, 1) := by decide +kernel
theorem dX10_callOn_47 : decode cX10_callOn 47 = .ok (.bipush 7, 2) := by decide +kernel
theorem dX10_callOn_49 : decode cX10_callOn 49 = .ok (.if_icmp .ne 17, 3) := by decide +kernel
theorem dX10_callOn_52 : decode cX10_callOn 52 = .ok (.aload_n 0, 1) := by decide +kernel
theorem dX10_callOn_53 : decode cX10_callOn 53 = .ok (.getfield 29, 3) := by decide +kernel
theorem dX10_callOn_56 : decode cX10_callOn 56 = .ok (.iload_n 1, 1) := by decide +kernel
theorem dX10_callOn_57 : decode cX10_callOn 57 = .ok (.iaload, 1) := by decide +kernel
theorem dX10_callOn_58 : decode cX10_callOn 58 = .ok (.iconst 2, 1) := by decide +kernel
theorem dX10_callOn_59 : decode cX10_callOn 59 = .ok (.if_icmp .ne 7, 3) := by decide +kernel
theorem dX10_callOn_62 : decode cX10_callOn 62 = .ok (.aload_n 0, 1) := by decide +kernel
theorem dX10_callOn_63 : decode cX10_callOn 63 = .ok (.invokevirtual 222, 3) := by decide +kernel
theorem dX10_callOn_66 : decode cX10_callOn 66 = .ok (.aload_n 0, 1) := by decide +kernel
theorem dX10_callOn_67 : decode cX10_callOn 67 = .ok (.dup, 1) := by decide +kernel
theorem dX10_callOn_68 : decode cX10_callOn 68 = .ok (.getfield 212, 3) := by decide +kernel
theorem dX10_callOn_71 : decode cX10_callOn 71 = .ok (.lconst 1, 1) := by decide +kernel
theorem dX10_callOn_72 : decode cX10_callOn 72 = .ok (.ladd, 1) := by decide +kernel
theorem dX10_callOn_73 : decode cX10_callOn 73 = .ok (.putfield 212, 3) := by decide +kernel
theorem dX10_callOn_76 : decode cX10_callOn 76 = .ok (.aload_n 0, 1) := by decide +kernel
theorem dX10_callOn_77 : decode cX10_callOn 77 = .ok (.iload_n 3, 1) := by decide +kernel
theorem dX10_callOn_78 : decode cX10_callOn 78 = .ok (.invokevirtual 225, 3) := by decide +kernel
theorem dX10_callOn_81 : decode cX10_callOn 81 = .ok (.ireturn, 1) := by decide +kernel
set_option maxRecDepth 20000 in
theorem ggX10_grow_X10_fail : GoodIn wsX10_grow wsX10_fail := goodIn_r _ [10, 11, 17, 18, 19, 20, 21, 22, 23, 24, 25, 26, 27, 28, 29, 30, 31, 32, 33, 34, 35, 36, 37, 38, 39, 40, 41, 42, 43, 44, 45, 46, 47, 48, 49, 50, 51, 52, 53, 54, 55] (by decide +kernel) (by decide +kernel)
set_option maxRecDepth 20000 in
theorem gX10_grow_X10_fail : GoodIn wsX10_grow (wsV RX10 219 RX10 yX10_fail wsX10_fail) := goodIn_app (goodIn_of _ (by decide +kernel)) ggX10_grow_X10_fail
set_option maxRecDepth 20000 in
theorem ggX10_grow_X10_end : GoodIn wsX10_grow wsX10_end := goodIn_r _ [15, 16, 17, 18, 19, 20, 21, 22, 23, 24, 25, 26, 27, 28, 29, 30, 31, 32, 33, 34, 35, 36, 37, 38, 39, 40, 41, 42, 43, 44, 45, 46, 47, 48, 49, 50, 51, 52, 53, 54, 55] (by decide +kernel) (by decide +kernel)
set_option maxRecDepth 20000 in
theorem gX10_grow_X10_end : GoodIn wsX10_grow (wsV RX10 228 RX10 yX10_end wsX10_end) := goodIn_app (goodIn_of _ (by decide +kernel)) ggX10_grow_X10_end
theorem dX10_grow_0 : decode cX10_grow 0 = .ok (.aload_n 0, 1) := by decide +kernel
theorem dX10_grow_1 : decode cX10_grow 1 = .ok (.getfield 125, 3) := by decide +kernel
theorem dX10_grow_4 : decode cX10_grow 4 = .ok (.sipush 300, 3) := by decide +kernel
theorem dX10_grow_7 : decode cX10_grow 7 = .ok (.if_icmp .ne 9, 3) := by decide +kernel
theorem dX10_grow_10 : decode cX10_grow 10 = .ok (.aload_n 0, 1) := by decide +kernel
theorem dX10_grow_11 : decode cX10_grow 11 = .ok (.iconst (-1), 1) := by decide +kernel
theorem dX10_grow_12 : decode cX10_grow 12 = .ok (.invokevirtual 219, 3) := by decide +kernel
theorem dX10_grow_15 : decode cX10_grow 15 = .ok (.ireturn, 1) := by decide +kernel
theorem dX10_grow_16 : decode cX10_grow 16 = .ok (.aload_n 0, 1) := by decide +kernel
theorem dX10_grow_17 : decode cX10_grow 17 = .ok (.getfield 23, 3) := by decide +kernel
theorem dX10_grow_20 : decode cX10_grow 20 = .ok (.aload_n 0, 1) := by decide +kernel
theorem dX10_grow_21 : decode cX10_grow 21 = .ok (.getfield 125, 3) := by decide +kernel
theorem dX10_grow_24 : decode cX10_grow 24 = .ok (.aload_n 0, 1) := by decide +kernel
theorem dX10_grow_25 : decode cX10_grow 25 = .ok (.getfield 82, 3) := by decide +kernel
theorem dX10_grow_28 : decode cX10_grow 28 = .ok (.iconst 0, 1) := by decide +kernel
theorem dX10_grow_29 : decode cX10_grow 29 = .ok (.iaload, 1) := by decide +kernel
theorem dX10_grow_30 : decode cX10_grow 30 = .ok (.iastore, 1) := by decide +kernel
theorem dX10_grow_31 : decode cX10_grow 31 = .ok (.aload_n 0, 1) := by decide +kernel
theorem dX10_grow_32 : decode cX10_grow 32 = .ok (.getfield 26, 3) := by decide +kernel
theorem dX10_grow_35 : decode cX10_grow 35 = .ok (.aload_n 0, 1) := by decide +kernel
theorem dX10_grow_36 : decode cX10_grow 36 = .ok (.getfield 125, 3) := by decide +kernel
theorem dX10_grow_39 : decode cX10_grow 39 = .ok (.aload_n 0, 1) := by decide +kernel
theorem dX10_grow_40 : decode cX10_grow 40 = .ok (.getfield 85, 3) := by decide +kernel
theorem dX10_grow_43 : decode cX10_grow 43 = .ok (.iconst 0, 1) := by decide +kernel
theorem dX10_grow_44 : decode cX10_grow 44 = .ok (.laload, 1) := by decide +kernel
theorem dX10_grow_45 : decode cX10_grow 45 = .ok (.iload_n 1, 1) := by decide +kernel
theorem dX10_grow_46 : decode cX10_grow 46 = .ok (.i2l, 1) := by decide +kernel
theorem dX10_grow_47 : decode cX10_grow 47 = .ok (.ladd, 1) := by decide +kernel
theorem dX10_grow_48 : decode cX10_grow 48 = .ok (.l2i, 1) := by decide +kernel
theorem dX10_grow_49 : decode cX10_grow 49 = .ok (.iastore, 1) := by decide +kernel
theorem dX10_grow_50 : decode cX10_grow 50 = .ok (.aload_n 0, 1) := by decide +kernel
theorem dX10_grow_51 : decode cX10_grow 51 = .ok (.dup, 1) := by decide +kernel
theorem dX10_grow_52 : decode cX10_grow 52 = .ok (.getfield 125, 3) := by decide +kernel
theorem dX10_grow_55 : decode cX10_grow 55 = .ok (.iconst 1, 1) := by decide +kernel
theorem dX10_grow_56 : decode cX10_grow 56 = .ok (.iadd, 1) := by decide +kernel
theorem dX10_grow_57 : decode cX10_grow 57 = .ok (.putfield 125, 3) := by decide +kernel
theorem dX10_grow_60 : decode cX10_grow 60 = .ok (.aload_n 0, 1) := by decide +kernel
theorem dX10_grow_61 : decode cX10_grow 61 = .ok (.aload_n 0, 1) := by decide +kernel
theorem dX10_grow_62 : decode cX10_grow 62 = .ok (.getfield 125, 3) := by decide +kernel
theorem dX10_grow_65 : decode cX10_grow 65 = .ok (.iconst 1, 1) := by decide +kernel
theorem dX10_grow_66 : decode cX10_grow 66 = .ok (.isub, 1) := by decide +kernel
theorem dX10_grow_67 : decode cX10_grow 67 = .ok (.i2l, 1) := by decide +kernel
theorem dX10_grow_68 : decode cX10_grow 68 = .ok (.invokevirtual 228, 3) := by decide +kernel
theorem dX10_grow_71 : decode cX10_grow 71 = .ok (.ireturn, 1) := by decide +kernel
set_option maxRecDepth 20000 in
theorem ggX10_run_X10_note : GoodIn wsX10_run wsX10_note := goodIn_r _ [9, 10, 11, 133, 134, 135, 136, 137, 138, 139, 140, 141, 142, 143, 144, 145, 146, 147, 148, 149, 150, 151, 152, 153, 154, 155, 156, 157, 158, 159, 160, 161, 162, 163, 164, 165, 166, 167, 168, 169, 170, 171] (by decide +kernel) (by decide +kernel)
set_option maxRecDepth 20000 in
theorem gX10_run_X10_note : GoodIn wsX10_run (wsV RX10 183 RX10 yX10_note wsX10_note) := goodIn_app (goodIn_of _ (by decide +kernel)) ggX10_run_X10_note
set_option maxRecDepth 20000 in
theorem ggX10_run_X10_end : GoodIn wsX10_run wsX10_end := goodIn_r _ [15, 3, 133, 134, 135, 136, 137, 138, 139, 140, 141, 142, 143, 144, 145, 146, 147, 148, 149, 150, 151, 152, 153, 154, 155, 156, 157, 158, 159, 160, 161, 162, 163, 164, 165, 166, 167, 168, 169, 170, 171] (by decide +kernel) (by decide +kernel)
set_option maxRecDepth 20000 in
theorem gX10_run_X10_end : GoodIn wsX10_run (wsV RX10 228 RX10 yX10_end wsX10_end) := goodIn_app (goodIn_of _ (by decide +kernel)) ggX10_run_X10_end
set_option maxRecDepth 20000 in
theorem ggX10_run_X10_weight : GoodIn wsX10_run wsX10_weight := goodIn_r _ [19, 20, 21, 133, 134, 135, 136, 137, 138, 139, 140, 141, 142, 143, 144, 145, 146, 147, 148, 149, 150, 151, 152, 153, 154, 155, 156, 157, 158, 159, 160, 161, 162, 163, 164, 165, 166, 167, 168, 169, 170, 171] (by decide +kernel) (by decide +kernel)
set_option maxRecDepth 20000 in
theorem gX10_run_X10_weight : GoodIn wsX10_run (wsV RX10 187 RX10 yX10_weight wsX10_weight) := goodIn_app (goodIn_of _ (by decide +kernel)) ggX10_run_X10_weight
set_option maxRecDepth 20000 in
theorem ggX10_run_X10_offered : GoodIn wsX10_run wsX10_offered := goodIn_r _ [25, 26, 27, 28, 29, 8, 30, 31, 32, 33, 34, 35, 36, 37, 38, 39, 40, 41, 21, 42, 43, 44, 45, 46, 47, 20, 48, 49, 50, 51, 52, 53, 54, 55, 56, 57, 58, 59, 60, 61, 62, 63, 64, 65, 66, 133, 134, 135, 136, 137, 138, 139, 140, 141, 142, 143, 144, 145, 146, 147, 148, 149, 150, 151, 152, 153, 154, 155, 156, 157, 158, 159, 160, 161, 162, 163, 164, 165, 166, 167, 168, 169, 170, 171] (by decide +kernel) (by decide +kernel)
set_option maxRecDepth 20000 in
theorem gX10_run_X10_offered : GoodIn wsX10_run (wsV RX10 203 RX10 yX10_offered wsX10_offered) := goodIn_app (goodIn_of _ (by decide +kernel)) ggX10_run_X10_offered
set_option maxRecDepth 20000 in
theorem ggX10_run_X10_choose : GoodIn wsX10_run wsX10_choose := goodIn_r _ [70, 22, 23, 24, 8, 25, 26, 27, 28, 29, 30, 31, 32, 33, 34, 35, 36, 37, 38, 39, 40, 41, 21, 42, 43, 44, 45, 46, 47, 20, 48, 49, 50, 51, 52, 53, 54, 55, 56, 57, 58, 59, 60, 61, 62, 63, 64, 65, 66, 71, 72, 73, 74, 133, 134, 135, 136, 137, 138, 139, 140, 141, 142, 143, 144, 145, 146, 147, 148, 149, 150, 151, 152, 153, 154, 155, 156, 157, 158, 159, 160, 161, 162, 163, 164, 165, 166, 167, 168, 169, 170, 171] (by decide +kernel) (by decide +kernel)
set_option maxRecDepth 20000 in
theorem gX10_run_X10_choose : GoodIn wsX10_run (wsV RX10 200 RX10 yX10_choose wsX10_choose) := goodIn_app (goodIn_of _ (by decide +kernel)) ggX10_run_X10_choose
set_option maxRecDepth 20000 in
theorem ggX10_run_X10_fail : GoodIn wsX10_run wsX10_fail := goodIn_r _ [78, 79, 133, 134, 135, 136, 137, 138, 139, 140, 141, 142, 143, 144, 145, 146, 147, 148, 149, 150, 151, 152, 153, 154, 155, 156, 157, 158, 159, 160, 161, 162, 163, 164, 165, 166, 167, 168, 169, 170, 171] (by decide +kernel) (by decide +kernel)
set_option maxRecDepth 20000 in
theorem gX10_run_X10_fail : GoodIn wsX10_run (wsV RX10 219 RX10 yX10_fail wsX10_fail) := goodIn_app (goodIn_of _ (by decide +kernel)) ggX10_run_X10_fail
set_option maxRecDepth 20000 in
theorem ggX10_run_X10_rest : GoodIn wsX10_run wsX10_rest := goodIn_r _ [82] (by decide +kernel) (by decide +kernel)
set_option maxRecDepth 20000 in
theorem gX10_run_X10_rest : GoodIn wsX10_run (va_wsS RX10 216 yX10_rest wsX10_rest) := goodIn_app (goodIn_of _ (by decide +kernel)) ggX10_run_X10_rest
set_option maxRecDepth 20000 in
theorem ggX10_run_X10_grow : GoodIn wsX10_run wsX10_grow := goodIn_r _ [86, 87, 88, 47, 89, 20, 75, 76, 77, 8, 78, 79, 12, 13, 14, 15, 3, 133, 134, 135, 136, 137, 138, 139, 140, 141, 142, 143, 144, 145, 146, 147, 148, 149, 150, 151, 152, 153, 154, 155, 156, 157, 158, 159, 160, 161, 162, 163, 164, 165, 166, 167, 168, 169, 170, 171] (by decide +kernel) (by decide +kernel)
set_option maxRecDepth 20000 in
theorem gX10_run_X10_grow : GoodIn wsX10_run (wsV RX10 232 RX10 yX10_grow wsX10_grow) := goodIn_app (goodIn_of _ (by decide +kernel)) ggX10_run_X10_grow
set_option maxRecDepth 20000 in
theorem ggX10_run_X10_callOn : GoodIn wsX10_run wsX10_callOn := goodIn_r _ [93, 1, 21, 2, 3, 80, 81, 8, 82, 94, 95, 96, 97, 98, 75, 76, 77, 78, 79, 99, 100, 101, 102, 47, 20, 103, 104, 105, 106, 107, 108, 109, 110, 111, 31, 112, 113, 114, 115, 26, 32, 33, 34, 35, 36, 37, 116, 117, 118, 119, 120, 55, 56, 57, 58, 59, 60, 61, 62, 46, 48, 49, 50, 51, 52, 53, 54, 63, 64, 65, 66, 38, 39, 40, 41, 42, 43, 44, 45, 5, 6, 7, 9, 10, 11, 16, 17, 18, 19, 121, 122, 123, 124, 125, 126, 127, 128, 129, 130, 131, 132, 67, 68, 69, 70, 22, 23, 24, 25, 27, 28, 29, 30, 71, 72, 73, 74, 133, 134, 135, 136, 137, 138, 139, 140, 141, 142, 143, 144, 145, 146, 147, 148, 149, 150, 151, 152, 153, 154, 155, 156, 157, 158, 159, 160, 161, 162, 163, 164, 165, 166, 167, 168, 169, 170, 171] (by decide +kernel) (by decide +kernel)
set_option maxRecDepth 20000 in
theorem gX10_run_X10_callOn : GoodIn wsX10_run (wsV RX10 235 RX10 yX10_callOn wsX10_callOn) := goodIn_app (goodIn_of _ (by decide +kernel)) ggX10_run_X10_callOn
theorem dX10_run_0 : decode cX10_run 0 = .ok (.aload_n 0, 1) := by decide +kernel
theorem dX10_run_1 : decode cX10_run 1 = .ok (.getfield 51, 3) := by decide +kernel
theorem dX10_run_4 : decode cX10_run 4 = .ok (.iload_n 2, 1) := by decide +kernel
theorem dX10_run_5 : decode cX10_run 5 = .ok (.iaload, 1) := by decide +kernel
theorem dX10_run_6 : decode cX10_run 6 = .ok (.istore_n 3, 1) := by decide +kernel
theorem dX10_run_7 : decode cX10_run 7 = .ok (.aload_n 0, 1) := by decide +kernel
theorem dX10_run_8 : decode cX10_run 8 = .ok (.iload_n 2, 1) := by decide +kernel
theorem dX10_run_9 : decode cX10_run 9 = .ok (.invokevirtual 183, 3) := by decide +kernel
theorem dX10_run_12 : decode cX10_run 12 = .ok (.aload_n 0, 1) := by decide +kernel
theorem dX10_run_13 : decode cX10_run 13 = .ok (.getfield 48, 3) := by decide +kernel
theorem dX10_run_16 : decode cX10_run 16 = .ok (.iload_n 2, 1) := by decide +kernel
theorem dX10_run_17 : decode cX10_run 17 = .ok (.iaload, 1) := by decide +kernel
theorem dX10_run_18 : decode cX10_run 18 = .ok (.tableswitch 136 0 5 #[38, 45, 58, 92, 98, 130], 38) := by decide +kernel
theorem dX10_run_56 : decode cX10_run 56 = .ok (.aload_n 0, 1) := by decide +kernel
theorem dX10_run_57 : decode cX10_run 57 = .ok (.iload_n 3, 1) := by decide +kernel
theorem dX10_run_58 : decode cX10_run 58 = .ok (.i2l, 1) := by decide +kernel
theorem dX10_run_59 : decode cX10_run 59 = .ok (.invokevirtual 228, 3) := by decide +kernel
theorem dX10_run_62 : decode cX10_run 62 = .ok (.ireturn, 1) := by decide +kernel
theorem dX10_run_63 : decode cX10_run 63 = .ok (.aload_n 0, 1) := by decide +kernel
theorem dX10_run_64 : decode cX10_run 64 = .ok (.aload_n 0, 1) := by decide +kernel
theorem dX10_run_65 : decode cX10_run 65 = .ok (.iload_n 1, 1) := by decide +kernel
theorem dX10_run_66 : decode cX10_run 66 = .ok (.invokevirtual 187, 3) := by decide +kernel
theorem dX10_run_69 : decode cX10_run 69 = .ok (.iload_n 3, 1) := by decide +kernel
theorem dX10_run_70 : decode cX10_run 70 = .ok (.i2l, 1) := by decide +kernel
theorem dX10_run_71 : decode cX10_run 71 = .ok (.ladd, 1) := by decide +kernel
theorem dX10_run_72 : decode cX10_run 72 = .ok (.invokevirtual 228, 3) := by decide +kernel
theorem dX10_run_75 : decode cX10_run 75 = .ok (.ireturn, 1) := by decide +kernel
theorem dX10_run_76 : decode cX10_run 76 = .ok (.aload_n 0, 1) := by decide +kernel
theorem dX10_run_77 : decode cX10_run 77 = .ok (.iload_n 1, 1) := by decide +kernel
theorem dX10_run_78 : decode cX10_run 78 = .ok (.iload_n 2, 1) := by decide +kernel
theorem dX10_run_79 : decode cX10_run 79 = .ok (.invokevirtual 203, 3) := by decide +kernel
theorem dX10_run_82 : decode cX10_run 82 = .ok (.ifCond .ne 10, 3) := by decide +kernel
theorem dX10_run_85 : decode cX10_run 85 = .ok (.aload_n 0, 1) := by decide +kernel
theorem dX10_run_86 : decode cX10_run 86 = .ok (.iload_n 3, 1) := by decide +kernel
theorem dX10_run_87 : decode cX10_run 87 = .ok (.i2l, 1) := by decide +kernel
theorem dX10_run_88 : decode cX10_run 88 = .ok (.invokevirtual 228, 3) := by decide +kernel
theorem dX10_run_91 : decode cX10_run 91 = .ok (.ireturn, 1) := by decide +kernel
theorem dX10_run_92 : decode cX10_run 92 = .ok (.aload_n 0, 1) := by decide +kernel
theorem dX10_run_93 : decode cX10_run 93 = .ok (.dup, 1) := by decide +kernel
theorem dX10_run_94 : decode cX10_run 94 = .ok (.getfield 212, 3) := by decide +kernel
theorem dX10_run_97 : decode cX10_run 97 = .ok (.iload_n 3, 1) := by decide +kernel
theorem dX10_run_98 : decode cX10_run 98 = .ok (.i2l, 1) := by decide +kernel
theorem dX10_run_99 : decode cX10_run 99 = .ok (.ladd, 1) := by decide +kernel
theorem dX10_run_100 : decode cX10_run 100 = .ok (.putfield 212, 3) := by decide +kernel
theorem dX10_run_103 : decode cX10_run 103 = .ok (.aload_n 0, 1) := by decide +kernel
theorem dX10_run_104 : decode cX10_run 104 = .ok (.iload_n 1, 1) := by decide +kernel
theorem dX10_run_105 : decode cX10_run 105 = .ok (.iload_n 2, 1) := by decide +kernel
theorem dX10_run_106 : decode cX10_run 106 = .ok (.invokevirtual 200, 3) := by decide +kernel
theorem dX10_run_109 : decode cX10_run 109 = .ok (.ireturn, 1) := by decide +kernel
theorem dX10_run_110 : decode cX10_run 110 = .ok (.aload_n 0, 1) := by decide +kernel
theorem dX10_run_111 : decode cX10_run 111 = .ok (.iload_n 3, 1) := by decide +kernel
theorem dX10_run_112 : decode cX10_run 112 = .ok (.invokevirtual 219, 3) := by decide +kernel
theorem dX10_run_115 : decode cX10_run 115 = .ok (.ireturn, 1) := by decide +kernel
theorem dX10_run_116 : decode cX10_run 116 = .ok (.iload_n 3, 1) := by decide +kernel
theorem dX10_run_117 : decode cX10_run 117 = .ok (.bipush 8, 2) := by decide +kernel
theorem dX10_run_119 : decode cX10_run 119 = .ok (.invokestatic 216, 3) := by decide +kernel
theorem dX10_run_122 : decode cX10_run 122 = .ok (.istore 4, 2) := by decide +kernel
theorem dX10_run_124 : decode cX10_run 124 = .ok (.aload_n 0, 1) := by decide +kernel
theorem dX10_run_125 : decode cX10_run 125 = .ok (.getfield 69, 3) := by decide +kernel
theorem dX10_run_128 : decode cX10_run 128 = .ok (.iload 4, 2) := by decide +kernel
theorem dX10_run_130 : decode cX10_run 130 = .ok (.dup2, 1) := by decide +kernel
theorem dX10_run_131 : decode cX10_run 131 = .ok (.iaload, 1) := by decide +kernel
theorem dX10_run_132 : decode cX10_run 132 = .ok (.iconst 1, 1) := by decide +kernel
theorem dX10_run_133 : decode cX10_run 133 = .ok (.iadd, 1) := by decide +kernel
theorem dX10_run_134 : decode cX10_run 134 = .ok (.iastore, 1) := by decide +kernel
theorem dX10_run_135 : decode cX10_run 135 = .ok (.aload_n 0, 1) := by decide +kernel
theorem dX10_run_136 : decode cX10_run 136 = .ok (.aload_n 0, 1) := by decide +kernel
theorem dX10_run_137 : decode cX10_run 137 = .ok (.getfield 69, 3) := by decide +kernel
theorem dX10_run_140 : decode cX10_run 140 = .ok (.iload 4, 2) := by decide +kernel
theorem dX10_run_142 : decode cX10_run 142 = .ok (.iaload, 1) := by decide +kernel
theorem dX10_run_143 : decode cX10_run 143 = .ok (.i2l, 1) := by decide +kernel
theorem dX10_run_144 : decode cX10_run 144 = .ok (.invokevirtual 228, 3) := by decide +kernel
theorem dX10_run_147 : decode cX10_run 147 = .ok (.ireturn, 1) := by decide +kernel
theorem dX10_run_148 : decode cX10_run 148 = .ok (.aload_n 0, 1) := by decide +kernel
theorem dX10_run_149 : decode cX10_run 149 = .ok (.iload_n 3, 1) := by decide +kernel
theorem dX10_run_150 : decode cX10_run 150 = .ok (.invokevirtual 232, 3) := by decide +kernel
theorem dX10_run_153 : decode cX10_run 153 = .ok (.ireturn, 1) := by decide +kernel
theorem dX10_run_154 : decode cX10_run 154 = .ok (.aload_n 0, 1) := by decide +kernel
theorem dX10_run_155 : decode cX10_run 155 = .ok (.iload_n 1, 1) := by decide +kernel
theorem dX10_run_156 : decode cX10_run 156 = .ok (.iload_n 2, 1) := by decide +kernel
theorem dX10_run_157 : decode cX10_run 157 = .ok (.invokevirtual 235, 3) := by decide +kernel
theorem dX10_run_160 : decode cX10_run 160 = .ok (.ireturn, 1) := by decide +kernel
set_option maxRecDepth 20000 in
theorem ggX10_call_X10_isFunction : GoodIn wsX10_call wsX10_isFunction := goodIn_r _ [11, 12, 143, 144, 145, 146, 147, 148, 149, 150, 151, 152, 153, 154, 155, 156, 157, 158, 159, 160, 161, 162, 163, 164, 165, 166, 167, 168, 169, 170, 171, 172, 173, 174, 175, 176, 177, 178, 179, 180, 181] (by decide +kernel) (by decide +kernel)
set_option maxRecDepth 20000 in
theorem gX10_call_X10_isFunction : GoodIn wsX10_call (wsV RX10 134 RX10 yX10_isFunction wsX10_isFunction) := goodIn_app (goodIn_of _ (by decide +kernel)) ggX10_call_X10_isFunction
set_option maxRecDepth 20000 in
theorem ggX10_call_X10_tellRow : GoodIn wsX10_call wsX10_tellRow := goodIn_r _ [16, 17, 18, 19, 20, 21, 22, 143, 144, 145, 146, 147, 148, 149, 150, 151, 152, 153, 154, 155, 156, 157, 158, 159, 160, 161, 162, 163, 164, 165, 166, 167, 168, 169, 170, 171, 172, 173, 174, 175, 176, 177, 178, 179, 180, 181] (by decide +kernel) (by decide +kernel)
set_option maxRecDepth 20000 in
theorem gX10_call_X10_tellRow : GoodIn wsX10_call (wsV RX10 238 RX10 yX10_tellRow wsX10_tellRow) := goodIn_app (goodIn_of _ (by decide +kernel)) ggX10_call_X10_tellRow
set_option maxRecDepth 20000 in
theorem ggX10_call_X10_begin : GoodIn wsX10_call wsX10_begin := goodIn_r _ [26, 2, 27, 28, 29, 10, 30, 31, 32, 33, 34, 35, 36, 37, 38, 39, 40, 41, 5, 42, 43, 44, 45, 46, 47, 48, 49, 50, 51, 17, 52, 53, 54, 55, 56, 57, 58, 59, 60, 61, 62, 63, 64, 65, 66, 67, 68, 69, 70, 71, 72, 73, 74, 75, 19, 21, 76, 77, 78, 79, 1, 80, 81, 82, 83, 84, 85, 86, 87, 88, 89, 90, 91, 92, 93, 94, 95, 96, 97, 98, 99, 100, 101, 102, 103, 104, 105, 106, 107, 108, 109, 110, 111, 112, 143, 144, 145, 146, 147, 148, 149, 150, 151, 152, 153, 154, 155, 156, 157, 158, 159, 160, 161, 162, 163, 164, 165, 166, 167, 168, 169, 170, 171, 172, 173, 174, 175, 176, 177, 178, 179, 180, 181] (by decide +kernel) (by decide +kernel)
set_option maxRecDepth 20000 in
theorem gX10_call_X10_begin : GoodIn wsX10_call (wsV RX10 225 RX10 yX10_begin wsX10_begin) := goodIn_app (goodIn_of _ (by decide +kernel)) ggX10_call_X10_begin
set_option maxRecDepth 20000 in
theorem ggX10_call_X10_run : GoodIn wsX10_call wsX10_run := goodIn_r _ [116, 32, 117, 3, 118, 76, 77, 78, 10, 79, 1, 80, 119, 120, 121, 122, 81, 82, 83, 84, 21, 17, 101, 102, 103, 104, 37, 105, 106, 107, 108, 31, 38, 39, 40, 41, 5, 42, 68, 69, 70, 71, 72, 73, 74, 75, 56, 19, 57, 58, 59, 60, 61, 62, 63, 48, 49, 50, 51, 52, 53, 54, 55, 64, 65, 66, 67, 97, 98, 99, 100, 109, 110, 111, 112, 123, 124, 125, 126, 4, 127, 128, 129, 130, 131, 132, 133, 134, 20, 22, 135, 136, 137, 138, 7, 8, 9, 11, 12, 139, 140, 141, 142, 23, 24, 25, 26, 2, 27, 28, 29, 30, 33, 34, 35, 36, 43, 44, 45, 46, 47, 85, 86, 87, 88, 89, 90, 91, 92, 93, 94, 95, 96, 143, 144, 145, 146, 147, 148, 149, 150, 151, 152, 153, 154, 155, 156, 157, 158, 159, 160, 161, 162, 163, 164, 165, 166, 167, 168, 169, 170, 171, 172, 173, 174, 175, 176, 177, 178, 179, 180, 181] (by decide +kernel) (by decide +kernel)
set_option maxRecDepth 20000 in
theorem gX10_call_X10_run : GoodIn wsX10_call (wsV RX10 241 RX10 yX10_run wsX10_run) := goodIn_app (goodIn_of _ (by decide +kernel)) ggX10_call_X10_run
theorem dX10_call_0 : decode cX10_call 0 = .ok (.aload_n 0, 1) := by decide +kernel
theorem dX10_call_1 : decode cX10_call 1 = .ok (.iload_n 1, 1) := by decide +kernel
theorem dX10_call_2 : decode cX10_call 2 = .ok (.invokevirtual 134, 3) := by decide +kernel
theorem dX10_call_5 : decode cX10_call 5 = .ok (.ifCond .ne 6, 3) := by decide +kernel
theorem dX10_call_8 : decode cX10_call 8 = .ok (.bipush (-2), 2) := by decide +kernel
theorem dX10_call_10 : decode cX10_call 10 = .ok (.ireturn, 1) := by decide +kernel
theorem dX10_call_11 : decode cX10_call 11 = .ok (.aload_n 0, 1) := by decide +kernel
theorem dX10_call_12 : decode cX10_call 12 = .ok (.iload_n 1, 1) := by decide +kernel
theorem dX10_call_13 : decode cX10_call 13 = .ok (.invokevirtual 238, 3) := by decide +kernel
theorem dX10_call_16 : decode cX10_call 16 = .ok (.ifCond .ne 6, 3) := by decide +kernel
theorem dX10_call_19 : decode cX10_call 19 = .ok (.bipush (-3), 2) := by decide +kernel
theorem dX10_call_21 : decode cX10_call 21 = .ok (.ireturn, 1) := by decide +kernel
theorem dX10_call_22 : decode cX10_call 22 = .ok (.aload_n 0, 1) := by decide +kernel
theorem dX10_call_23 : decode cX10_call 23 = .ok (.iconst 0, 1) := by decide +kernel
theorem dX10_call_24 : decode cX10_call 24 = .ok (.putfield 180, 3) := by decide +kernel
theorem dX10_call_27 : decode cX10_call 27 = .ok (.aload_n 0, 1) := by decide +kernel
theorem dX10_call_28 : decode cX10_call 28 = .ok (.iconst 0, 1) := by decide +kernel
theorem dX10_call_29 : decode cX10_call 29 = .ok (.putfield 191, 3) := by decide +kernel
theorem dX10_call_32 : decode cX10_call 32 = .ok (.aload_n 0, 1) := by decide +kernel
theorem dX10_call_33 : decode cX10_call 33 = .ok (.lconst 0, 1) := by decide +kernel
theorem dX10_call_34 : decode cX10_call 34 = .ok (.putfield 212, 3) := by decide +kernel
theorem dX10_call_37 : decode cX10_call 37 = .ok (.aload_n 0, 1) := by decide +kernel
theorem dX10_call_38 : decode cX10_call 38 = .ok (.iconst 0, 1) := by decide +kernel
theorem dX10_call_39 : decode cX10_call 39 = .ok (.putfield 209, 3) := by decide +kernel
theorem dX10_call_42 : decode cX10_call 42 = .ok (.aload_n 0, 1) := by decide +kernel
theorem dX10_call_43 : decode cX10_call 43 = .ok (.iload_n 1, 1) := by decide +kernel
theorem dX10_call_44 : decode cX10_call 44 = .ok (.invokevirtual 225, 3) := by decide +kernel
theorem dX10_call_47 : decode cX10_call 47 = .ok (.istore_n 2, 1) := by decide +kernel
theorem dX10_call_48 : decode cX10_call 48 = .ok (.iload_n 2, 1) := by decide +kernel
theorem dX10_call_49 : decode cX10_call 49 = .ok (.ifCond .lt 18, 3) := by decide +kernel
theorem dX10_call_52 : decode cX10_call 52 = .ok (.aload_n 0, 1) := by decide +kernel
theorem dX10_call_53 : decode cX10_call 53 = .ok (.aload_n 0, 1) := by decide +kernel
theorem dX10_call_54 : decode cX10_call 54 = .ok (.getfield 45, 3) := by decide +kernel
theorem dX10_call_57 : decode cX10_call 57 = .ok (.iload_n 2, 1) := by decide +kernel
theorem dX10_call_58 : decode cX10_call 58 = .ok (.iaload, 1) := by decide +kernel
theorem dX10_call_59 : decode cX10_call 59 = .ok (.iload_n 2, 1) := by decide +kernel
theorem dX10_call_60 : decode cX10_call 60 = .ok (.invokevirtual 241, 3) := by decide +kernel
theorem dX10_call_63 : decode cX10_call 63 = .ok (.istore_n 2, 1) := by decide +kernel
theorem dX10_call_64 : decode cX10_call 64 = .ok (.goto (-16), 3) := by decide +kernel
theorem dX10_call_67 : decode cX10_call 67 = .ok (.aload_n 0, 1) := by decide +kernel
theorem dX10_call_68 : decode cX10_call 68 = .ok (.bipush (-2), 2) := by decide +kernel
theorem dX10_call_70 : decode cX10_call 70 = .ok (.iload_n 2, 1) := by decide +kernel
theorem dX10_call_71 : decode cX10_call 71 = .ok (.isub, 1) := by decide +kernel
theorem dX10_call_72 : decode cX10_call 72 = .ok (.putfield 75, 3) := by decide +kernel
theorem dX10_call_75 : decode cX10_call 75 = .ok (.aload_n 0, 1) := by decide +kernel
theorem dX10_call_76 : decode cX10_call 76 = .ok (.getfield 75, 3) := by decide +kernel
theorem dX10_call_79 : decode cX10_call 79 = .ok (.ireturn, 1) := by decide +kernel
theorem dX10_value_0 : decode cX10_value 0 = .ok (.aload_n 0, 1) := by decide +kernel
theorem dX10_value_1 : decode cX10_value 1 = .ok (.getfield 75, 3) := by decide +kernel
theorem dX10_value_4 : decode cX10_value 4 = .ok (.ifCond .ne 10, 3) := by decide +kernel
theorem dX10_value_7 : decode cX10_value 7 = .ok (.aload_n 0, 1) := by decide +kernel
theorem dX10_value_8 : decode cX10_value 8 = .ok (.getfield 212, 3) := by decide +kernel
theorem dX10_value_11 : decode cX10_value 11 = .ok (.goto 4, 3) := by decide +kernel
theorem dX10_value_14 : decode cX10_value 14 = .ok (.lconst 0, 1) := by decide +kernel
theorem dX10_value_15 : decode cX10_value 15 = .ok (.lreturn, 1) := by decide +kernel
theorem dX10_failure_0 : decode cX10_failure 0 = .ok (.aload_n 0, 1) := by decide +kernel
theorem dX10_failure_1 : decode cX10_failure 1 = .ok (.getfield 75, 3) := by decide +kernel
theorem dX10_failure_4 : decode cX10_failure 4 = .ok (.iconst 3, 1) := by decide +kernel
theorem dX10_failure_5 : decode cX10_failure 5 = .ok (.if_icmp .ne 10, 3) := by decide +kernel
theorem dX10_failure_8 : decode cX10_failure 8 = .ok (.aload_n 0, 1) := by decide +kernel
theorem dX10_failure_9 : decode cX10_failure 9 = .ok (.getfield 209, 3) := by decide +kernel
theorem dX10_failure_12 : decode cX10_failure 12 = .ok (.goto 4, 3) := by decide +kernel
theorem dX10_failure_15 : decode cX10_failure 15 = .ok (.iconst 0, 1) := by decide +kernel
theorem dX10_failure_16 : decode cX10_failure 16 = .ok (.ireturn, 1) := by decide +kernel
theorem dX10_step_0 : decode cX10_step 0 = .ok (.iload_n 1, 1) := by decide +kernel
theorem dX10_step_1 : decode cX10_step 1 = .ok (.ifCond .lt 18, 3) := by decide +kernel
theorem dX10_step_4 : decode cX10_step 4 = .ok (.iload_n 1, 1) := by decide +kernel
theorem dX10_step_5 : decode cX10_step 5 = .ok (.aload_n 0, 1) := by decide +kernel
theorem dX10_step_6 : decode cX10_step 6 = .ok (.getfield 180, 3) := by decide +kernel
theorem dX10_step_9 : decode cX10_step 9 = .ok (.if_icmp .ge 10, 3) := by decide +kernel
theorem dX10_step_12 : decode cX10_step 12 = .ok (.iload_n 1, 1) := by decide +kernel
theorem dX10_step_13 : decode cX10_step 13 = .ok (.sipush 1000, 3) := by decide +kernel
theorem dX10_step_16 : decode cX10_step 16 = .ok (.if_icmp .lt 7, 3) := by decide +kernel
theorem dX10_step_19 : decode cX10_step 19 = .ok (.iconst (-1), 1) := by decide +kernel
theorem dX10_step_20 : decode cX10_step 20 = .ok (.goto 9, 3) := by decide +kernel
theorem dX10_step_23 : decode cX10_step 23 = .ok (.aload_n 0, 1) := by decide +kernel
theorem dX10_step_24 : decode cX10_step 24 = .ok (.getfield 79, 3) := by decide +kernel
theorem dX10_step_27 : decode cX10_step 27 = .ok (.iload_n 1, 1) := by decide +kernel
theorem dX10_step_28 : decode cX10_step 28 = .ok (.iaload, 1) := by decide +kernel
theorem dX10_step_29 : decode cX10_step 29 = .ok (.ireturn, 1) := by decide +kernel
theorem dX10_counter_0 : decode cX10_counter 0 = .ok (.iload_n 1, 1) := by decide +kernel
theorem dX10_counter_1 : decode cX10_counter 1 = .ok (.ifCond .lt 9, 3) := by decide +kernel
theorem dX10_counter_4 : decode cX10_counter 4 = .ok (.iload_n 1, 1) := by decide +kernel
theorem dX10_counter_5 : decode cX10_counter 5 = .ok (.bipush 7, 2) := by decide +kernel
theorem dX10_counter_7 : decode cX10_counter 7 = .ok (.if_icmp .le 7, 3) := by decide +kernel
theorem dX10_counter_10 : decode cX10_counter 10 = .ok (.iconst (-1), 1) := by decide +kernel
theorem dX10_counter_11 : decode cX10_counter 11 = .ok (.goto 9, 3) := by decide +kernel
theorem dX10_counter_14 : decode cX10_counter 14 = .ok (.aload_n 0, 1) := by decide +kernel
theorem dX10_counter_15 : decode cX10_counter 15 = .ok (.getfield 69, 3) := by decide +kernel
theorem dX10_counter_18 : decode cX10_counter 18 = .ok (.iload_n 1, 1) := by decide +kernel
theorem dX10_counter_19 : decode cX10_counter 19 = .ok (.iaload, 1) := by decide +kernel
theorem dX10_counter_20 : decode cX10_counter 20 = .ok (.ireturn, 1) := by decide +kernel
set_option maxRecDepth 20000 in
theorem ggX10_applicable_X10_isFunction : GoodIn wsX10_applicable wsX10_isFunction := goodIn_r _ [6, 7, 57, 58, 59, 60, 61, 62, 63, 64, 65, 66, 67, 68, 69, 70, 71, 72, 73, 74, 75, 76, 77, 78, 79, 80, 81, 82, 83, 84, 85, 86, 87, 88, 89, 90, 91, 92, 93, 94, 95] (by decide +kernel) (by decide +kernel)
set_option maxRecDepth 20000 in
theorem gX10_applicable_X10_isFunction : GoodIn wsX10_applicable (wsV RX10 134 RX10 yX10_isFunction wsX10_isFunction) := goodIn_app (goodIn_of _ (by decide +kernel)) ggX10_applicable_X10_isFunction
set_option maxRecDepth 20000 in
theorem ggX10_applicable_X10_tellRow : GoodIn wsX10_applicable wsX10_tellRow := goodIn_r _ [11, 12, 13, 14, 15, 16, 17, 57, 58, 59, 60, 61, 62, 63, 64, 65, 66, 67, 68, 69, 70, 71, 72, 73, 74, 75, 76, 77, 78, 79, 80, 81, 82, 83, 84, 85, 86, 87, 88, 89, 90, 91, 92, 93, 94, 95] (by decide +kernel) (by decide +kernel)
set_option maxRecDepth 20000 in
theorem gX10_applicable_X10_tellRow : GoodIn wsX10_applicable (wsV RX10 238 RX10 yX10_tellRow wsX10_tellRow) := goodIn_app (goodIn_of _ (by decide +kernel)) ggX10_applicable_X10_tellRow
set_option maxRecDepth 20000 in
theorem ggX10_applicable_X10_isOffered : GoodIn wsX10_applicable wsX10_isOffered := goodIn_r _ [21, 22, 23, 24, 25, 5, 26, 27, 28, 29, 30, 31, 32, 12, 33, 34, 35, 36, 37, 14, 16, 38, 39, 40, 41, 42, 43, 44, 45, 46, 47, 48, 49, 50, 51, 52, 53, 54, 55, 56, 57, 58, 59, 60, 61, 62, 63, 64, 65, 66, 67, 68, 69, 70, 71, 72, 73, 74, 75, 76, 77, 78, 79, 80, 81, 82, 83, 84, 85, 86, 87, 88, 89, 90, 91, 92, 93, 94, 95] (by decide +kernel) (by decide +kernel)
set_option maxRecDepth 20000 in
theorem gX10_applicable_X10_isOffered : GoodIn wsX10_applicable (wsV RX10 171 RX10 yX10_isOffered wsX10_isOffered) := goodIn_app (goodIn_of _ (by decide +kernel)) ggX10_applicable_X10_isOffered
theorem dX10_applicable_0 : decode cX10_applicable 0 = .ok (.aload_n 0, 1) := by decide +kernel
theorem dX10_applicable_1 : decode cX10_applicable 1 = .ok (.iload_n 1, 1) := by decide +kernel
theorem dX10_applicable_2 : decode cX10_applicable 2 = .ok (.invokevirtual 134, 3) := by decide +kernel
theorem dX10_applicable_5 : decode cX10_applicable 5 = .ok (.ifCond .eq 11, 3) := by decide +kernel
theorem dX10_applicable_8 : decode cX10_applicable 8 = .ok (.aload_n 0, 1) := by decide +kernel
theorem dX10_applicable_9 : decode cX10_applicable 9 = .ok (.iload_n 1, 1) := by decide +kernel
theorem dX10_applicable_10 : decode cX10_applicable 10 = .ok (.invokevirtual 238, 3) := by decide +kernel
theorem dX10_applicable_13 : decode cX10_applicable 13 = .ok (.ifCond .ne 5, 3) := by decide +kernel
theorem dX10_applicable_16 : decode cX10_applicable 16 = .ok (.iconst (-1), 1) := by decide +kernel
theorem dX10_applicable_17 : decode cX10_applicable 17 = .ok (.ireturn, 1) := by decide +kernel
theorem dX10_applicable_18 : decode cX10_applicable 18 = .ok (.iconst 0, 1) := by decide +kernel
theorem dX10_applicable_19 : decode cX10_applicable 19 = .ok (.istore_n 3, 1) := by decide +kernel
theorem dX10_applicable_20 : decode cX10_applicable 20 = .ok (.iconst (-1), 1) := by decide +kernel
theorem dX10_applicable_21 : decode cX10_applicable 21 = .ok (.istore 4, 2) := by decide +kernel
theorem dX10_applicable_23 : decode cX10_applicable 23 = .ok (.iconst 0, 1) := by decide +kernel
theorem dX10_applicable_24 : decode cX10_applicable 24 = .ok (.istore 5, 2) := by decide +kernel
theorem dX10_applicable_26 : decode cX10_applicable 26 = .ok (.iload 5, 2) := by decide +kernel
theorem dX10_applicable_28 : decode cX10_applicable 28 = .ok (.aload_n 0, 1) := by decide +kernel
theorem dX10_applicable_29 : decode cX10_applicable 29 = .ok (.getfield 131, 3) := by decide +kernel
theorem dX10_applicable_32 : decode cX10_applicable 32 = .ok (.if_icmp .ge 37, 3) := by decide +kernel
theorem dX10_applicable_35 : decode cX10_applicable 35 = .ok (.aload_n 0, 1) := by decide +kernel
theorem dX10_applicable_36 : decode cX10_applicable 36 = .ok (.iload 5, 2) := by decide +kernel
theorem dX10_applicable_38 : decode cX10_applicable 38 = .ok (.iload_n 1, 1) := by decide +kernel
theorem dX10_applicable_39 : decode cX10_applicable 39 = .ok (.iconst (-1), 1) := by decide +kernel
theorem dX10_applicable_40 : decode cX10_applicable 40 = .ok (.invokevirtual 171, 3) := by decide +kernel
theorem dX10_applicable_43 : decode cX10_applicable 43 = .ok (.ifCond .eq 20, 3) := by decide +kernel
theorem dX10_applicable_46 : decode cX10_applicable 46 = .ok (.iload_n 3, 1) := by decide +kernel
theorem dX10_applicable_47 : decode cX10_applicable 47 = .ok (.iload_n 2, 1) := by decide +kernel
theorem dX10_applicable_48 : decode cX10_applicable 48 = .ok (.if_icmp .ne 8, 3) := by decide +kernel
theorem dX10_applicable_51 : decode cX10_applicable 51 = .ok (.iload 5, 2) := by decide +kernel
theorem dX10_applicable_53 : decode cX10_applicable 53 = .ok (.goto 5, 3) := by decide +kernel
theorem dX10_applicable_56 : decode cX10_applicable 56 = .ok (.iload 4, 2) := by decide +kernel
theorem dX10_applicable_58 : decode cX10_applicable 58 = .ok (.istore 4, 2) := by decide +kernel
theorem dX10_applicable_60 : decode cX10_applicable 60 = .ok (.iinc 3 1, 3) := by decide +kernel
theorem dX10_applicable_63 : decode cX10_applicable 63 = .ok (.iinc 5 1, 3) := by decide +kernel
theorem dX10_applicable_66 : decode cX10_applicable 66 = .ok (.goto (-40), 3) := by decide +kernel
theorem dX10_applicable_69 : decode cX10_applicable 69 = .ok (.iload 4, 2) := by decide +kernel
theorem dX10_applicable_71 : decode cX10_applicable 71 = .ok (.ireturn, 1) := by decide +kernel
set_option maxRecDepth 20000 in
theorem ggX10_most_X10_isFunction : GoodIn wsX10_most wsX10_isFunction := goodIn_r _ [5, 6, 61, 62, 63, 64, 65, 66, 67, 68, 69, 70, 71, 72, 73, 74, 75, 76, 77, 78, 79, 80, 81, 82, 83, 84, 85, 86, 87, 88, 89, 90, 91, 92, 93, 94, 95, 96, 97, 98, 99] (by decide +kernel) (by decide +kernel)
set_option maxRecDepth 20000 in
theorem gX10_most_X10_isFunction : GoodIn wsX10_most (wsV RX10 134 RX10 yX10_isFunction wsX10_isFunction) := goodIn_app (goodIn_of _ (by decide +kernel)) ggX10_most_X10_isFunction
set_option maxRecDepth 20000 in
theorem ggX10_most_X10_tellRow : GoodIn wsX10_most wsX10_tellRow := goodIn_r _ [10, 11, 12, 13, 14, 15, 16, 61, 62, 63, 64, 65, 66, 67, 68, 69, 70, 71, 72, 73, 74, 75, 76, 77, 78, 79, 80, 81, 82, 83, 84, 85, 86, 87, 88, 89, 90, 91, 92, 93, 94, 95, 96, 97, 98, 99] (by decide +kernel) (by decide +kernel)
set_option maxRecDepth 20000 in
theorem gX10_most_X10_tellRow : GoodIn wsX10_most (wsV RX10 238 RX10 yX10_tellRow wsX10_tellRow) := goodIn_app (goodIn_of _ (by decide +kernel)) ggX10_most_X10_tellRow
set_option maxRecDepth 20000 in
theorem ggX10_most_X10_chosen : GoodIn wsX10_most wsX10_chosen := goodIn_r _ [20, 21, 22, 23, 24, 4, 25, 26, 27, 28, 29, 30, 31, 32, 33, 34, 35, 36, 11, 37, 38, 39, 40, 41, 13, 15, 42, 43, 44, 45, 46, 47, 48, 49, 50, 51, 52, 53, 54, 55, 56, 57, 58, 59, 60, 61, 62, 63, 64, 65, 66, 67, 68, 69, 70, 71, 72, 73, 74, 75, 76, 77, 78, 79, 80, 81, 82, 83, 84, 85, 86, 87, 88, 89, 90, 91, 92, 93, 94, 95, 96, 97, 98, 99] (by decide +kernel) (by decide +kernel)
set_option maxRecDepth 20000 in
theorem gX10_most_X10_chosen : GoodIn wsX10_most (wsV RX10 206 RX10 yX10_chosen wsX10_chosen) := goodIn_app (goodIn_of _ (by decide +kernel)) ggX10_most_X10_chosen
theorem dX10_most_0 : decode cX10_most 0 = .ok (.aload_n 0, 1) := by decide +kernel
theorem dX10_most_1 : decode cX10_most 1 = .ok (.iload_n 1, 1) := by decide +kernel
theorem dX10_most_2 : decode cX10_most 2 = .ok (.invokevirtual 134, 3) := by decide +kernel
theorem dX10_most_5 : decode cX10_most 5 = .ok (.ifCond .eq 20, 3) := by decide +kernel
theorem dX10_most_8 : decode cX10_most 8 = .ok (.aload_n 0, 1) := by decide +kernel
theorem dX10_most_9 : decode cX10_most 9 = .ok (.iload_n 1, 1) := by decide +kernel
theorem dX10_most_10 : decode cX10_most 10 = .ok (.invokevirtual 238, 3) := by decide +kernel
theorem dX10_most_13 : decode cX10_most 13 = .ok (.ifCond .eq 12, 3) := by decide +kernel
theorem dX10_most_16 : decode cX10_most 16 = .ok (.aload_n 0, 1) := by decide +kernel
theorem dX10_most_17 : decode cX10_most 17 = .ok (.iload_n 1, 1) := by decide +kernel
theorem dX10_most_18 : decode cX10_most 18 = .ok (.iconst (-1), 1) := by decide +kernel
theorem dX10_most_19 : decode cX10_most 19 = .ok (.invokevirtual 206, 3) := by decide +kernel
theorem dX10_most_22 : decode cX10_most 22 = .ok (.goto 4, 3) := by decide +kernel
theorem dX10_most_25 : decode cX10_most 25 = .ok (.iconst (-1), 1) := by decide +kernel
theorem dX10_most_26 : decode cX10_most 26 = .ok (.ireturn, 1) := by decide +kernel
set_option maxRecDepth 20000 in
theorem ggX10_moreThan_X10_isOffered : GoodIn wsX10_moreThan wsX10_isOffered := goodIn_r _ [6, 7, 8, 9, 10, 5, 11, 12, 13, 14, 15, 16, 17, 18, 19, 20, 21, 22, 23, 24, 25, 26, 27, 28, 29, 30, 31, 32, 33, 34, 35, 36, 37, 38, 39, 40, 41, 42, 43, 44, 45, 46, 47, 48, 49, 50, 51, 52, 53, 54, 55, 56, 57, 58, 59, 60, 61, 62, 63, 64, 65, 66, 67, 68, 69, 70, 71, 72, 73, 74, 75, 76, 77, 78, 79, 80, 81, 82, 83] (by decide +kernel) (by decide +kernel)
set_option maxRecDepth 20000 in
theorem gX10_moreThan_X10_isOffered : GoodIn wsX10_moreThan (wsV RX10 171 RX10 yX10_isOffered wsX10_isOffered) := goodIn_app (goodIn_of _ (by decide +kernel)) ggX10_moreThan_X10_isOffered
set_option maxRecDepth 20000 in
theorem ggX10_moreThan_X10_isMore : GoodIn wsX10_moreThan wsX10_isMore := goodIn_r _ [36, 12, 18, 37, 38, 39, 5, 40, 23, 26, 27, 28, 29, 30, 31, 32, 41, 42, 43, 44, 45, 46, 47, 48, 49, 50, 51, 52, 53, 54, 55, 56, 57, 58, 59, 60, 61, 62, 63, 64, 65, 66, 67, 68, 69, 70, 71, 72, 73, 74, 75, 76, 77, 78, 79, 80, 81, 82, 83] (by decide +kernel) (by decide +kernel)
set_option maxRecDepth 20000 in
theorem gX10_moreThan_X10_isMore : GoodIn wsX10_moreThan (wsV RX10 159 RX10 yX10_isMore wsX10_isMore) := goodIn_app (goodIn_of _ (by decide +kernel)) ggX10_moreThan_X10_isMore
theorem dX10_moreThan_0 : decode cX10_moreThan 0 = .ok (.iconst (-1), 1) := by decide +kernel
theorem dX10_moreThan_1 : decode cX10_moreThan 1 = .ok (.istore_n 3, 1) := by decide +kernel
theorem dX10_moreThan_2 : decode cX10_moreThan 2 = .ok (.aload_n 0, 1) := by decide +kernel
theorem dX10_moreThan_3 : decode cX10_moreThan 3 = .ok (.getfield 131, 3) := by decide +kernel
theorem dX10_moreThan_6 : decode cX10_moreThan 6 = .ok (.iconst 1, 1) := by decide +kernel
theorem dX10_moreThan_7 : decode cX10_moreThan 7 = .ok (.isub, 1) := by decide +kernel
theorem dX10_moreThan_8 : decode cX10_moreThan 8 = .ok (.istore 4, 2) := by decide +kernel
theorem dX10_moreThan_10 : decode cX10_moreThan 10 = .ok (.iload 4, 2) := by decide +kernel
theorem dX10_moreThan_12 : decode cX10_moreThan 12 = .ok (.ifCond .lt 37, 3) := by decide +kernel
theorem dX10_moreThan_15 : decode cX10_moreThan 15 = .ok (.aload_n 0, 1) := by decide +kernel
theorem dX10_moreThan_16 : decode cX10_moreThan 16 = .ok (.iload 4, 2) := by decide +kernel
theorem dX10_moreThan_18 : decode cX10_moreThan 18 = .ok (.iload_n 1, 1) := by decide +kernel
theorem dX10_moreThan_19 : decode cX10_moreThan 19 = .ok (.iconst (-1), 1) := by decide +kernel
theorem dX10_moreThan_20 : decode cX10_moreThan 20 = .ok (.invokevirtual 171, 3) := by decide +kernel
theorem dX10_moreThan_23 : decode cX10_moreThan 23 = .ok (.ifCond .eq 18, 3) := by decide +kernel
theorem dX10_moreThan_26 : decode cX10_moreThan 26 = .ok (.aload_n 0, 1) := by decide +kernel
theorem dX10_moreThan_27 : decode cX10_moreThan 27 = .ok (.iload 4, 2) := by decide +kernel
theorem dX10_moreThan_29 : decode cX10_moreThan 29 = .ok (.iload_n 2, 1) := by decide +kernel
theorem dX10_moreThan_30 : decode cX10_moreThan 30 = .ok (.invokevirtual 159, 3) := by decide +kernel
theorem dX10_moreThan_33 : decode cX10_moreThan 33 = .ok (.ifCond .eq 8, 3) := by decide +kernel
theorem dX10_moreThan_36 : decode cX10_moreThan 36 = .ok (.iload 4, 2) := by decide +kernel
theorem dX10_moreThan_38 : decode cX10_moreThan 38 = .ok (.goto 4, 3) := by decide +kernel
theorem dX10_moreThan_41 : decode cX10_moreThan 41 = .ok (.iload_n 3, 1) := by decide +kernel
theorem dX10_moreThan_42 : decode cX10_moreThan 42 = .ok (.istore_n 3, 1) := by decide +kernel
theorem dX10_moreThan_43 : decode cX10_moreThan 43 = .ok (.iinc 4 (-1), 3) := by decide +kernel
theorem dX10_moreThan_46 : decode cX10_moreThan 46 = .ok (.goto (-36), 3) := by decide +kernel
theorem dX10_moreThan_49 : decode cX10_moreThan 49 = .ok (.iload_n 3, 1) := by decide +kernel
theorem dX10_moreThan_50 : decode cX10_moreThan 50 = .ok (.ireturn, 1) := by decide +kernel
set_option maxRecDepth 20000 in
theorem ggX10_explain_X10_isHandler : GoodIn wsX10_explain wsX10_isHandler := goodIn_r _ [10, 5, 65, 66, 67, 68, 69, 70, 71, 72, 73, 74, 75, 76, 77, 78, 79, 80, 81, 82, 83, 84, 85, 86, 87, 88, 89, 90, 91, 92, 93, 94, 95, 96, 97, 98, 99, 100, 101, 102, 103] (by decide +kernel) (by decide +kernel)
set_option maxRecDepth 20000 in
theorem gX10_explain_X10_isHandler : GoodIn wsX10_explain (wsV RX10 139 RX10 yX10_isHandler wsX10_isHandler) := goodIn_app (goodIn_of _ (by decide +kernel)) ggX10_explain_X10_isHandler
set_option maxRecDepth 20000 in
theorem ggX10_explain_X10_tellRow : GoodIn wsX10_explain wsX10_tellRow := goodIn_r _ [14, 15, 16, 17, 18, 19, 20, 65, 66, 67, 68, 69, 70, 71, 72, 73, 74, 75, 76, 77, 78, 79, 80, 81, 82, 83, 84, 85, 86, 87, 88, 89, 90, 91, 92, 93, 94, 95, 96, 97, 98, 99, 100, 101, 102, 103] (by decide +kernel) (by decide +kernel)
set_option maxRecDepth 20000 in
theorem gX10_explain_X10_tellRow : GoodIn wsX10_explain (wsV RX10 238 RX10 yX10_tellRow wsX10_tellRow) := goodIn_app (goodIn_of _ (by decide +kernel)) ggX10_explain_X10_tellRow
set_option maxRecDepth 20000 in
theorem ggX10_explain_X10_isOffered : GoodIn wsX10_explain wsX10_isOffered := goodIn_r _ [24, 4, 25, 26, 27, 9, 28, 1, 3, 29, 30, 31, 32, 15, 33, 34, 35, 36, 37, 17, 19, 38, 39, 40, 41, 42, 43, 44, 45, 46, 47, 48, 49, 50, 51, 52, 53, 54, 55, 56, 65, 66, 67, 68, 69, 70, 71, 72, 73, 74, 75, 76, 77, 78, 79, 80, 81, 82, 83, 84, 85, 86, 87, 88, 89, 90, 91, 92, 93, 94, 95, 96, 97, 98, 99, 100, 101, 102, 103] (by decide +kernel) (by decide +kernel)
set_option maxRecDepth 20000 in
theorem gX10_explain_X10_isOffered : GoodIn wsX10_explain (wsV RX10 171 RX10 yX10_isOffered wsX10_isOffered) := goodIn_app (goodIn_of _ (by decide +kernel)) ggX10_explain_X10_isOffered
set_option maxRecDepth 20000 in
theorem ggX10_explain_X10_chosen : GoodIn wsX10_explain wsX10_chosen := goodIn_r _ [60, 5, 21, 22, 23, 9, 24, 4, 25, 26, 27, 28, 1, 3, 29, 30, 31, 32, 15, 33, 34, 35, 36, 37, 17, 19, 38, 39, 40, 41, 42, 43, 44, 45, 46, 47, 48, 49, 50, 51, 52, 53, 54, 55, 56, 65, 66, 67, 68, 69, 70, 71, 72, 73, 74, 75, 76, 77, 78, 79, 80, 81, 82, 83, 84, 85, 86, 87, 88, 89, 90, 91, 92, 93, 94, 95, 96, 97, 98, 99, 100, 101, 102, 103] (by decide +kernel) (by decide +kernel)
set_option maxRecDepth 20000 in
theorem gX10_explain_X10_chosen : GoodIn wsX10_explain (wsV RX10 206 RX10 yX10_chosen wsX10_chosen) := goodIn_app (goodIn_of _ (by decide +kernel)) ggX10_explain_X10_chosen
set_option maxRecDepth 20000 in
theorem ggX10_explain_X10_takes : GoodIn wsX10_explain wsX10_takes := goodIn_r _ [32, 15, 1, 33, 34, 35, 9, 36, 37, 17, 19, 38, 39, 40, 41, 42, 43, 44, 65, 66, 67, 68, 69, 70, 71, 72, 73, 74, 75, 76, 77, 78, 79, 80, 81, 82, 83, 84, 85, 86, 87, 88, 89, 90, 91, 92, 93, 94, 95, 96, 97, 98, 99, 100, 101, 102, 103] (by decide +kernel) (by decide +kernel)
set_option maxRecDepth 20000 in
theorem gX10_explain_X10_takes : GoodIn wsX10_explain (wsV RX10 168 RX10 yX10_takes wsX10_takes) := goodIn_app (goodIn_of _ (by decide +kernel)) ggX10_explain_X10_takes
set_option maxRecDepth 20000 in
theorem ggX10_explain_X10_takesAt : GoodIn wsX10_explain wsX10_takesAt := goodIn_r _ [36, 37, 17, 19, 38, 39, 40, 41, 42, 9, 43, 44, 65, 66, 67, 68, 69, 70, 71, 72, 73, 74, 75, 76, 77, 78, 79, 80, 81, 82, 83, 84, 85, 86, 87, 88, 89, 90, 91, 92, 93, 94, 95, 96, 97, 98, 99, 100, 101, 102, 103] (by decide +kernel) (by decide +kernel)
set_option maxRecDepth 20000 in
theorem gX10_explain_X10_takesAt : GoodIn wsX10_explain (wsV RX10 165 RX10 yX10_takesAt wsX10_takesAt) := goodIn_app (goodIn_of _ (by decide +kernel)) ggX10_explain_X10_takesAt
set_option maxRecDepth 20000 in
theorem ggX10_explain_X10_moreThan : GoodIn wsX10_explain wsX10_moreThan := goodIn_r _ [64, 5, 21, 22, 23, 9, 24, 4, 25, 26, 27, 28, 1, 3, 29, 30, 31, 32, 15, 33, 34, 35, 36, 37, 17, 19, 38, 39, 40, 41, 42, 43, 44, 45, 46, 47, 48, 49, 50, 51, 52, 53, 54, 55, 56, 65, 66, 67, 68, 69, 70, 71, 72, 73, 74, 75, 76, 77, 78, 79, 80, 81, 82, 83, 84, 85, 86, 87, 88, 89, 90, 91, 92, 93, 94, 95, 96, 97, 98, 99, 100, 101, 102, 103] (by decide +kernel) (by decide +kernel)
set_option maxRecDepth 20000 in
theorem gX10_explain_X10_moreThan : GoodIn wsX10_explain (wsV RX10 244 RX10 yX10_moreThan wsX10_moreThan) := goodIn_app (goodIn_of _ (by decide +kernel)) ggX10_explain_X10_moreThan
set_option maxRecDepth 20000 in
theorem ggX10_explain_X10_isMore : GoodIn wsX10_explain wsX10_isMore := goodIn_r _ [48, 1, 15, 49, 50, 51, 9, 52, 37, 38, 39, 40, 41, 42, 43, 44, 53, 54, 55, 56, 65, 66, 67, 68, 69, 70, 71, 72, 73, 74, 75, 76, 77, 78, 79, 80, 81, 82, 83, 84, 85, 86, 87, 88, 89, 90, 91, 92, 93, 94, 95, 96, 97, 98, 99, 100, 101, 102, 103] (by decide +kernel) (by decide +kernel)
set_option maxRecDepth 20000 in
theorem gX10_explain_X10_isMore : GoodIn wsX10_explain (wsV RX10 159 RX10 yX10_isMore wsX10_isMore) := goodIn_app (goodIn_of _ (by decide +kernel)) ggX10_explain_X10_isMore
theorem dX10_explain_0 : decode cX10_explain 0 = .ok (.aload_n 0, 1) := by decide +kernel
theorem dX10_explain_1 : decode cX10_explain 1 = .ok (.iload_n 1, 1) := by decide +kernel
theorem dX10_explain_2 : decode cX10_explain 2 = .ok (.invokevirtual 139, 3) := by decide +kernel
theorem dX10_explain_5 : decode cX10_explain 5 = .ok (.ifCond .ne 6, 3) := by decide +kernel
theorem dX10_explain_8 : decode cX10_explain 8 = .ok (.bipush (-2), 2) := by decide +kernel
theorem dX10_explain_10 : decode cX10_explain 10 = .ok (.ireturn, 1) := by decide +kernel
theorem dX10_explain_11 : decode cX10_explain 11 = .ok (.aload_n 0, 1) := by decide +kernel
theorem dX10_explain_12 : decode cX10_explain 12 = .ok (.getfield 45, 3) := by decide +kernel
theorem dX10_explain_15 : decode cX10_explain 15 = .ok (.iload_n 1, 1) := by decide +kernel
theorem dX10_explain_16 : decode cX10_explain 16 = .ok (.iaload, 1) := by decide +kernel
theorem dX10_explain_17 : decode cX10_explain 17 = .ok (.istore_n 2, 1) := by decide +kernel
theorem dX10_explain_18 : decode cX10_explain 18 = .ok (.aload_n 0, 1) := by decide +kernel
theorem dX10_explain_19 : decode cX10_explain 19 = .ok (.iload_n 2, 1) := by decide +kernel
theorem dX10_explain_20 : decode cX10_explain 20 = .ok (.invokevirtual 238, 3) := by decide +kernel
theorem dX10_explain_23 : decode cX10_explain 23 = .ok (.ifCond .ne 6, 3) := by decide +kernel
theorem dX10_explain_26 : decode cX10_explain 26 = .ok (.bipush (-3), 2) := by decide +kernel
theorem dX10_explain_28 : decode cX10_explain 28 = .ok (.ireturn, 1) := by decide +kernel
theorem dX10_explain_29 : decode cX10_explain 29 = .ok (.aload_n 0, 1) := by decide +kernel
theorem dX10_explain_30 : decode cX10_explain 30 = .ok (.iconst (-1), 1) := by decide +kernel
theorem dX10_explain_31 : decode cX10_explain 31 = .ok (.putfield 88, 3) := by decide +kernel
theorem dX10_explain_34 : decode cX10_explain 34 = .ok (.aload_n 0, 1) := by decide +kernel
theorem dX10_explain_35 : decode cX10_explain 35 = .ok (.iload_n 1, 1) := by decide +kernel
theorem dX10_explain_36 : decode cX10_explain 36 = .ok (.iload_n 2, 1) := by decide +kernel
theorem dX10_explain_37 : decode cX10_explain 37 = .ok (.iconst (-1), 1) := by decide +kernel
theorem dX10_explain_38 : decode cX10_explain 38 = .ok (.invokevirtual 171, 3) := by decide +kernel
theorem dX10_explain_41 : decode cX10_explain 41 = .ok (.ifCond .eq 15, 3) := by decide +kernel
theorem dX10_explain_44 : decode cX10_explain 44 = .ok (.aload_n 0, 1) := by decide +kernel
theorem dX10_explain_45 : decode cX10_explain 45 = .ok (.iload_n 2, 1) := by decide +kernel
theorem dX10_explain_46 : decode cX10_explain 46 = .ok (.iconst (-1), 1) := by decide +kernel
theorem dX10_explain_47 : decode cX10_explain 47 = .ok (.invokevirtual 206, 3) := by decide +kernel
theorem dX10_explain_50 : decode cX10_explain 50 = .ok (.iload_n 1, 1) := by decide +kernel
theorem dX10_explain_51 : decode cX10_explain 51 = .ok (.if_icmp .ne 5, 3) := by decide +kernel
theorem dX10_explain_54 : decode cX10_explain 54 = .ok (.iconst 0, 1) := by decide +kernel
theorem dX10_explain_55 : decode cX10_explain 55 = .ok (.ireturn, 1) := by decide +kernel
theorem dX10_explain_56 : decode cX10_explain 56 = .ok (.aload_n 0, 1) := by decide +kernel
theorem dX10_explain_57 : decode cX10_explain 57 = .ok (.getfield 57, 3) := by decide +kernel
theorem dX10_explain_60 : decode cX10_explain 60 = .ok (.iload_n 1, 1) := by decide +kernel
theorem dX10_explain_61 : decode cX10_explain 61 = .ok (.iaload, 1) := by decide +kernel
theorem dX10_explain_62 : decode cX10_explain 62 = .ok (.iconst 1, 1) := by decide +kernel
theorem dX10_explain_63 : decode cX10_explain 63 = .ok (.if_icmp .ne 12, 3) := by decide +kernel
theorem dX10_explain_66 : decode cX10_explain 66 = .ok (.aload_n 0, 1) := by decide +kernel
theorem dX10_explain_67 : decode cX10_explain 67 = .ok (.getfield 54, 3) := by decide +kernel
theorem dX10_explain_70 : decode cX10_explain 70 = .ok (.iload_n 1, 1) := by decide +kernel
theorem dX10_explain_71 : decode cX10_explain 71 = .ok (.baload, 1) := by decide +kernel
theorem dX10_explain_72 : decode cX10_explain 72 = .ok (.ifCond .eq 19, 3) := by decide +kernel
theorem dX10_explain_75 : decode cX10_explain 75 = .ok (.aload_n 0, 1) := by decide +kernel
theorem dX10_explain_76 : decode cX10_explain 76 = .ok (.getfield 57, 3) := by decide +kernel
theorem dX10_explain_79 : decode cX10_explain 79 = .ok (.iload_n 1, 1) := by decide +kernel
theorem dX10_explain_80 : decode cX10_explain 80 = .ok (.iaload, 1) := by decide +kernel
theorem dX10_explain_81 : decode cX10_explain 81 = .ok (.iconst 1, 1) := by decide +kernel
theorem dX10_explain_82 : decode cX10_explain 82 = .ok (.if_icmp .eq 7, 3) := by decide +kernel
theorem dX10_explain_85 : decode cX10_explain 85 = .ok (.iconst 1, 1) := by decide +kernel
theorem dX10_explain_86 : decode cX10_explain 86 = .ok (.goto 4, 3) := by decide +kernel
theorem dX10_explain_89 : decode cX10_explain 89 = .ok (.iconst 2, 1) := by decide +kernel
theorem dX10_explain_90 : decode cX10_explain 90 = .ok (.ireturn, 1) := by decide +kernel
theorem dX10_explain_91 : decode cX10_explain 91 = .ok (.aload_n 0, 1) := by decide +kernel
theorem dX10_explain_92 : decode cX10_explain 92 = .ok (.iload_n 1, 1) := by decide +kernel
theorem dX10_explain_93 : decode cX10_explain 93 = .ok (.invokevirtual 168, 3) := by decide +kernel
theorem dX10_explain_96 : decode cX10_explain 96 = .ok (.ifCond .ne 23, 3) := by decide +kernel
theorem dX10_explain_99 : decode cX10_explain 99 = .ok (.aload_n 0, 1) := by decide +kernel
theorem dX10_explain_100 : decode cX10_explain 100 = .ok (.aload_n 0, 1) := by decide +kernel
theorem dX10_explain_101 : decode cX10_explain 101 = .ok (.iload_n 1, 1) := by decide +kernel
theorem dX10_explain_102 : decode cX10_explain 102 = .ok (.iconst 0, 1) := by decide +kernel
theorem dX10_explain_103 : decode cX10_explain 103 = .ok (.invokevirtual 165, 3) := by decide +kernel
theorem dX10_explain_106 : decode cX10_explain 106 = .ok (.ifCond .eq 7, 3) := by decide +kernel
theorem dX10_explain_109 : decode cX10_explain 109 = .ok (.iconst 1, 1) := by decide +kernel
theorem dX10_explain_110 : decode cX10_explain 110 = .ok (.goto 4, 3) := by decide +kernel
theorem dX10_explain_113 : decode cX10_explain 113 = .ok (.iconst 0, 1) := by decide +kernel
theorem dX10_explain_114 : decode cX10_explain 114 = .ok (.putfield 88, 3) := by decide +kernel
theorem dX10_explain_117 : decode cX10_explain 117 = .ok (.iconst 3, 1) := by decide +kernel
theorem dX10_explain_118 : decode cX10_explain 118 = .ok (.ireturn, 1) := by decide +kernel
theorem dX10_explain_119 : decode cX10_explain 119 = .ok (.aload_n 0, 1) := by decide +kernel
theorem dX10_explain_120 : decode cX10_explain 120 = .ok (.aload_n 0, 1) := by decide +kernel
theorem dX10_explain_121 : decode cX10_explain 121 = .ok (.iload_n 2, 1) := by decide +kernel
theorem dX10_explain_122 : decode cX10_explain 122 = .ok (.iload_n 1, 1) := by decide +kernel
theorem dX10_explain_123 : decode cX10_explain 123 = .ok (.invokevirtual 244, 3) := by decide +kernel
theorem dX10_explain_126 : decode cX10_explain 126 = .ok (.putfield 88, 3) := by decide +kernel
theorem dX10_explain_129 : decode cX10_explain 129 = .ok (.aload_n 0, 1) := by decide +kernel
theorem dX10_explain_130 : decode cX10_explain 130 = .ok (.getfield 88, 3) := by decide +kernel
theorem dX10_explain_133 : decode cX10_explain 133 = .ok (.ifCond .lt 5, 3) := by decide +kernel
theorem dX10_explain_136 : decode cX10_explain 136 = .ok (.iconst 4, 1) := by decide +kernel
theorem dX10_explain_137 : decode cX10_explain 137 = .ok (.ireturn, 1) := by decide +kernel
theorem dX10_explain_138 : decode cX10_explain 138 = .ok (.aload_n 0, 1) := by decide +kernel
theorem dX10_explain_139 : decode cX10_explain 139 = .ok (.getfield 131, 3) := by decide +kernel
theorem dX10_explain_142 : decode cX10_explain 142 = .ok (.iconst 1, 1) := by decide +kernel
theorem dX10_explain_143 : decode cX10_explain 143 = .ok (.isub, 1) := by decide +kernel
theorem dX10_explain_144 : decode cX10_explain 144 = .ok (.istore_n 3, 1) := by decide +kernel
theorem dX10_explain_145 : decode cX10_explain 145 = .ok (.iload_n 3, 1) := by decide +kernel
theorem dX10_explain_146 : decode cX10_explain 146 = .ok (.ifCond .lt 45, 3) := by decide +kernel
theorem dX10_explain_149 : decode cX10_explain 149 = .ok (.aload_n 0, 1) := by decide +kernel
theorem dX10_explain_150 : decode cX10_explain 150 = .ok (.iload_n 3, 1) := by decide +kernel
theorem dX10_explain_151 : decode cX10_explain 151 = .ok (.iload_n 1, 1) := by decide +kernel
theorem dX10_explain_152 : decode cX10_explain 152 = .ok (.if_icmp .eq 26, 3) := by decide +kernel
theorem dX10_explain_155 : decode cX10_explain 155 = .ok (.aload_n 0, 1) := by decide +kernel
theorem dX10_explain_156 : decode cX10_explain 156 = .ok (.iload_n 3, 1) := by decide +kernel
theorem dX10_explain_157 : decode cX10_explain 157 = .ok (.iload_n 2, 1) := by decide +kernel
theorem dX10_explain_158 : decode cX10_explain 158 = .ok (.iconst (-1), 1) := by decide +kernel
theorem dX10_explain_159 : decode cX10_explain 159 = .ok (.invokevirtual 171, 3) := by decide +kernel
theorem dX10_explain_162 : decode cX10_explain 162 = .ok (.ifCond .eq 16, 3) := by decide +kernel
theorem dX10_explain_165 : decode cX10_explain 165 = .ok (.aload_n 0, 1) := by decide +kernel
theorem dX10_explain_166 : decode cX10_explain 166 = .ok (.iload_n 1, 1) := by decide +kernel
theorem dX10_explain_167 : decode cX10_explain 167 = .ok (.iload_n 3, 1) := by decide +kernel
theorem dX10_explain_168 : decode cX10_explain 168 = .ok (.invokevirtual 159, 3) := by decide +kernel
theorem dX10_explain_171 : decode cX10_explain 171 = .ok (.ifCond .ne 7, 3) := by decide +kernel
theorem dX10_explain_174 : decode cX10_explain 174 = .ok (.iload_n 3, 1) := by decide +kernel
theorem dX10_explain_175 : decode cX10_explain 175 = .ok (.goto 7, 3) := by decide +kernel
theorem dX10_explain_178 : decode cX10_explain 178 = .ok (.aload_n 0, 1) := by decide +kernel
theorem dX10_explain_179 : decode cX10_explain 179 = .ok (.getfield 88, 3) := by decide +kernel
theorem dX10_explain_182 : decode cX10_explain 182 = .ok (.putfield 88, 3) := by decide +kernel
theorem dX10_explain_185 : decode cX10_explain 185 = .ok (.iinc 3 (-1), 3) := by decide +kernel
theorem dX10_explain_188 : decode cX10_explain 188 = .ok (.goto (-43), 3) := by decide +kernel
theorem dX10_explain_191 : decode cX10_explain 191 = .ok (.iconst 5, 1) := by decide +kernel
theorem dX10_explain_192 : decode cX10_explain 192 = .ok (.ireturn, 1) := by decide +kernel
theorem dX10_where_0 : decode cX10_where 0 = .ok (.aload_n 0, 1) := by decide +kernel
theorem dX10_where_1 : decode cX10_where 1 = .ok (.getfield 88, 3) := by decide +kernel
theorem dX10_where_4 : decode cX10_where 4 = .ok (.ireturn, 1) := by decide +kernel
theorem dX10_countAll_0 : decode cX10_countAll 0 = .ok (.iload_n 1, 1) := by decide +kernel
theorem dX10_countAll_1 : decode cX10_countAll 1 = .ok (.tableswitch 68 0 4 #[35, 40, 45, 58, 63], 35) := by decide +kernel
theorem dX10_countAll_36 : decode cX10_countAll 36 = .ok (.aload_n 0, 1) := by decide +kernel
theorem dX10_countAll_37 : decode cX10_countAll 37 = .ok (.getfield 128, 3) := by decide +kernel
theorem dX10_countAll_40 : decode cX10_countAll 40 = .ok (.ireturn, 1) := by decide +kernel
theorem dX10_countAll_41 : decode cX10_countAll 41 = .ok (.aload_n 0, 1) := by decide +kernel
theorem dX10_countAll_42 : decode cX10_countAll 42 = .ok (.getfield 131, 3) := by decide +kernel
theorem dX10_countAll_45 : decode cX10_countAll 45 = .ok (.ireturn, 1) := by decide +kernel
theorem dX10_countAll_46 : decode cX10_countAll 46 = .ok (.aload_n 0, 1) := by decide +kernel
theorem dX10_countAll_47 : decode cX10_countAll 47 = .ok (.getfield 110, 3) := by decide +kernel
theorem dX10_countAll_50 : decode cX10_countAll 50 = .ok (.ifCond .eq 7, 3) := by decide +kernel
theorem dX10_countAll_53 : decode cX10_countAll 53 = .ok (.iconst 1, 1) := by decide +kernel
theorem dX10_countAll_54 : decode cX10_countAll 54 = .ok (.goto 4, 3) := by decide +kernel
theorem dX10_countAll_57 : decode cX10_countAll 57 = .ok (.iconst 0, 1) := by decide +kernel
theorem dX10_countAll_58 : decode cX10_countAll 58 = .ok (.ireturn, 1) := by decide +kernel
theorem dX10_countAll_59 : decode cX10_countAll 59 = .ok (.aload_n 0, 1) := by decide +kernel
theorem dX10_countAll_60 : decode cX10_countAll 60 = .ok (.getfield 180, 3) := by decide +kernel
theorem dX10_countAll_63 : decode cX10_countAll 63 = .ok (.ireturn, 1) := by decide +kernel
theorem dX10_countAll_64 : decode cX10_countAll 64 = .ok (.aload_n 0, 1) := by decide +kernel
theorem dX10_countAll_65 : decode cX10_countAll 65 = .ok (.getfield 191, 3) := by decide +kernel
theorem dX10_countAll_68 : decode cX10_countAll 68 = .ok (.ireturn, 1) := by decide +kernel
theorem dX10_countAll_69 : decode cX10_countAll 69 = .ok (.bipush (-2), 2) := by decide +kernel
theorem dX10_countAll_71 : decode cX10_countAll 71 = .ok (.ireturn, 1) := by decide +kernel
set_option maxRecDepth 20000 in
theorem ggX10_count_X10_countAll : GoodIn wsX10_count wsX10_countAll := goodIn_r _ [9, 10, 11, 12, 13, 14, 29, 30, 31, 32, 33, 34, 35, 36, 37, 38, 39, 40, 41, 42, 43, 44, 45, 46, 47, 48, 49, 50, 51, 52, 53, 54, 55, 56, 57, 58, 59, 60, 61, 62, 63, 64, 65, 66, 67] (by decide +kernel) (by decide +kernel)
set_option maxRecDepth 20000 in
theorem gX10_count_X10_countAll : GoodIn wsX10_count (wsV RX10 247 RX10 yX10_countAll wsX10_countAll) := goodIn_app (goodIn_of _ (by decide +kernel)) ggX10_count_X10_countAll
set_option maxRecDepth 20000 in
theorem ggX10_count_X10_isFunction : GoodIn wsX10_count wsX10_isFunction := goodIn_r _ [18, 10, 29, 30, 31, 32, 33, 34, 35, 36, 37, 38, 39, 40, 41, 42, 43, 44, 45, 46, 47, 48, 49, 50, 51, 52, 53, 54, 55, 56, 57, 58, 59, 60, 61, 62, 63, 64, 65, 66, 67] (by decide +kernel) (by decide +kernel)
set_option maxRecDepth 20000 in
theorem gX10_count_X10_isFunction : GoodIn wsX10_count (wsV RX10 134 RX10 yX10_isFunction wsX10_isFunction) := goodIn_app (goodIn_of _ (by decide +kernel)) ggX10_count_X10_isFunction
set_option maxRecDepth 20000 in
theorem ggX10_count_X10_laid : GoodIn wsX10_count wsX10_laid := goodIn_r _ [22, 11, 23, 24, 25, 8, 26, 27, 28, 29, 30, 31, 32, 33, 34, 35, 36, 37, 38, 39, 40, 41, 42, 43, 44, 45, 46, 47, 48, 49, 50, 51, 52, 53, 54, 55, 56, 57, 58, 59, 60, 61, 62, 63, 64, 65, 66, 67] (by decide +kernel) (by decide +kernel)
set_option maxRecDepth 20000 in
theorem gX10_count_X10_laid : GoodIn wsX10_count (wsV RX10 155 RX10 yX10_laid wsX10_laid) := goodIn_app (goodIn_of _ (by decide +kernel)) ggX10_count_X10_laid
theorem dX10_count_0 : decode cX10_count 0 = .ok (.iload_n 1, 1) := by decide +kernel
theorem dX10_count_1 : decode cX10_count 1 = .ok (.iconst (-1), 1) := by decide +kernel
theorem dX10_count_2 : decode cX10_count 2 = .ok (.if_icmp .ne 9, 3) := by decide +kernel
theorem dX10_count_5 : decode cX10_count 5 = .ok (.aload_n 0, 1) := by decide +kernel
theorem dX10_count_6 : decode cX10_count 6 = .ok (.iload_n 2, 1) := by decide +kernel
theorem dX10_count_7 : decode cX10_count 7 = .ok (.invokevirtual 247, 3) := by decide +kernel
theorem dX10_count_10 : decode cX10_count 10 = .ok (.ireturn, 1) := by decide +kernel
theorem dX10_count_11 : decode cX10_count 11 = .ok (.aload_n 0, 1) := by decide +kernel
theorem dX10_count_12 : decode cX10_count 12 = .ok (.iload_n 1, 1) := by decide +kernel
theorem dX10_count_13 : decode cX10_count 13 = .ok (.invokevirtual 134, 3) := by decide +kernel
theorem dX10_count_16 : decode cX10_count 16 = .ok (.ifCond .eq 12, 3) := by decide +kernel
theorem dX10_count_19 : decode cX10_count 19 = .ok (.iload_n 2, 1) := by decide +kernel
theorem dX10_count_20 : decode cX10_count 20 = .ok (.ifCond .lt 8, 3) := by decide +kernel
theorem dX10_count_23 : decode cX10_count 23 = .ok (.iload_n 2, 1) := by decide +kernel
theorem dX10_count_24 : decode cX10_count 24 = .ok (.iconst 4, 1) := by decide +kernel
theorem dX10_count_25 : decode cX10_count 25 = .ok (.if_icmp .le 6, 3) := by decide +kernel
theorem dX10_count_28 : decode cX10_count 28 = .ok (.bipush (-2), 2) := by decide +kernel
theorem dX10_count_30 : decode cX10_count 30 = .ok (.ireturn, 1) := by decide +kernel
theorem dX10_count_31 : decode cX10_count 31 = .ok (.iload_n 2, 1) := by decide +kernel
theorem dX10_count_32 : decode cX10_count 32 = .ok (.ifCond .ne 12, 3) := by decide +kernel
theorem dX10_count_35 : decode cX10_count 35 = .ok (.aload_n 0, 1) := by decide +kernel
theorem dX10_count_36 : decode cX10_count 36 = .ok (.getfield 29, 3) := by decide +kernel
theorem dX10_count_39 : decode cX10_count 39 = .ok (.iload_n 1, 1) := by decide +kernel
theorem dX10_count_40 : decode cX10_count 40 = .ok (.iaload, 1) := by decide +kernel
theorem dX10_count_41 : decode cX10_count 41 = .ok (.goto 58, 3) := by decide +kernel
theorem dX10_count_44 : decode cX10_count 44 = .ok (.iload_n 2, 1) := by decide +kernel
theorem dX10_count_45 : decode cX10_count 45 = .ok (.iconst 1, 1) := by decide +kernel
theorem dX10_count_46 : decode cX10_count 46 = .ok (.if_icmp .ne 11, 3) := by decide +kernel
theorem dX10_count_49 : decode cX10_count 49 = .ok (.aload_n 0, 1) := by decide +kernel
theorem dX10_count_50 : decode cX10_count 50 = .ok (.iload_n 1, 1) := by decide +kernel
theorem dX10_count_51 : decode cX10_count 51 = .ok (.invokevirtual 155, 3) := by decide +kernel
theorem dX10_count_54 : decode cX10_count 54 = .ok (.goto 45, 3) := by decide +kernel
theorem dX10_count_57 : decode cX10_count 57 = .ok (.iload_n 2, 1) := by decide +kernel
theorem dX10_count_58 : decode cX10_count 58 = .ok (.iconst 2, 1) := by decide +kernel
theorem dX10_count_59 : decode cX10_count 59 = .ok (.if_icmp .ne 20, 3) := by decide +kernel
theorem dX10_count_62 : decode cX10_count 62 = .ok (.aload_n 0, 1) := by decide +kernel
theorem dX10_count_63 : decode cX10_count 63 = .ok (.getfield 32, 3) := by decide +kernel
theorem dX10_count_66 : decode cX10_count 66 = .ok (.iload_n 1, 1) := by decide +kernel
theorem dX10_count_67 : decode cX10_count 67 = .ok (.baload, 1) := by decide +kernel
theorem dX10_count_68 : decode cX10_count 68 = .ok (.ifCond .eq 7, 3) := by decide +kernel
theorem dX10_count_71 : decode cX10_count 71 = .ok (.iconst 1, 1) := by decide +kernel
theorem dX10_count_72 : decode cX10_count 72 = .ok (.goto 27, 3) := by decide +kernel
theorem dX10_count_75 : decode cX10_count 75 = .ok (.iconst 0, 1) := by decide +kernel
theorem dX10_count_76 : decode cX10_count 76 = .ok (.goto 23, 3) := by decide +kernel
theorem dX10_count_79 : decode cX10_count 79 = .ok (.iload_n 2, 1) := by decide +kernel
theorem dX10_count_80 : decode cX10_count 80 = .ok (.iconst 3, 1) := by decide +kernel
theorem dX10_count_81 : decode cX10_count 81 = .ok (.if_icmp .ne 12, 3) := by decide +kernel
theorem dX10_count_84 : decode cX10_count 84 = .ok (.aload_n 0, 1) := by decide +kernel
theorem dX10_count_85 : decode cX10_count 85 = .ok (.getfield 35, 3) := by decide +kernel
theorem dX10_count_88 : decode cX10_count 88 = .ok (.iload_n 1, 1) := by decide +kernel
theorem dX10_count_89 : decode cX10_count 89 = .ok (.iaload, 1) := by decide +kernel
theorem dX10_count_90 : decode cX10_count 90 = .ok (.goto 9, 3) := by decide +kernel
theorem dX10_count_93 : decode cX10_count 93 = .ok (.aload_n 0, 1) := by decide +kernel
theorem dX10_count_94 : decode cX10_count 94 = .ok (.getfield 42, 3) := by decide +kernel
theorem dX10_count_97 : decode cX10_count 97 = .ok (.iload_n 1, 1) := by decide +kernel
theorem dX10_count_98 : decode cX10_count 98 = .ok (.iaload, 1) := by decide +kernel
theorem dX10_count_99 : decode cX10_count 99 = .ok (.ireturn, 1) := by decide +kernel
set_option maxRecDepth 20000 in
theorem ggX10_findEdges_X10_isLaid : GoodIn wsX10_findEdges wsX10_isLaid := goodIn_r _ [12, 13, 14, 15, 16, 17, 18, 19, 20, 21, 22, 23, 24, 25, 26, 27, 28, 29, 30, 31, 32, 33, 34, 35, 36, 37, 38, 39, 40, 41, 42, 43, 44, 45, 46, 47, 48, 49, 50, 51, 52, 53] (by decide +kernel) (by decide +kernel)
set_option maxRecDepth 20000 in
theorem gX10_findEdges_X10_isLaid : GoodIn wsX10_findEdges (wsV RX10 145 RX10 yX10_isLaid wsX10_isLaid) := goodIn_app (goodIn_of _ (by decide +kernel)) ggX10_findEdges_X10_isLaid
theorem dX10_findEdges_0 : decode cX10_findEdges 0 = .ok (.iconst 1, 1) := by decide +kernel
theorem dX10_findEdges_1 : decode cX10_findEdges 1 = .ok (.istore_n 3, 1) := by decide +kernel
theorem dX10_findEdges_2 : decode cX10_findEdges 2 = .ok (.aload_n 0, 1) := by decide +kernel
theorem dX10_findEdges_3 : decode cX10_findEdges 3 = .ok (.getfield 94, 3) := by decide +kernel
theorem dX10_findEdges_6 : decode cX10_findEdges 6 = .ok (.bipush 34, 2) := by decide +kernel
theorem dX10_findEdges_8 : decode cX10_findEdges 8 = .ok (.iload_n 2, 1) := by decide +kernel
theorem dX10_findEdges_9 : decode cX10_findEdges 9 = .ok (.imul, 1) := by decide +kernel
theorem dX10_findEdges_10 : decode cX10_findEdges 10 = .ok (.ldc2_w 250, 3) := by decide +kernel
theorem dX10_findEdges_13 : decode cX10_findEdges 13 = .ok (.lastore, 1) := by decide +kernel
theorem dX10_findEdges_14 : decode cX10_findEdges 14 = .ok (.ldc2_w 250, 3) := by decide +kernel
theorem dX10_findEdges_17 : decode cX10_findEdges 17 = .ok (.lstore 4, 2) := by decide +kernel
theorem dX10_findEdges_19 : decode cX10_findEdges 19 = .ok (.iconst 1, 1) := by decide +kernel
theorem dX10_findEdges_20 : decode cX10_findEdges 20 = .ok (.istore 6, 2) := by decide +kernel
theorem dX10_findEdges_22 : decode cX10_findEdges 22 = .ok (.iload 6, 2) := by decide +kernel
theorem dX10_findEdges_24 : decode cX10_findEdges 24 = .ok (.ifCond .eq 160, 3) := by decide +kernel
theorem dX10_findEdges_27 : decode cX10_findEdges 27 = .ok (.ldc2_w 174, 3) := by decide +kernel
theorem dX10_findEdges_30 : decode cX10_findEdges 30 = .ok (.lstore 7, 2) := by decide +kernel
theorem dX10_findEdges_32 : decode cX10_findEdges 32 = .ok (.iconst 0, 1) := by decide +kernel
theorem dX10_findEdges_33 : decode cX10_findEdges 33 = .ok (.istore 9, 2) := by decide +kernel
theorem dX10_findEdges_35 : decode cX10_findEdges 35 = .ok (.iload 9, 2) := by decide +kernel
theorem dX10_findEdges_37 : decode cX10_findEdges 37 = .ok (.aload_n 0, 1) := by decide +kernel
theorem dX10_findEdges_38 : decode cX10_findEdges 38 = .ok (.getfield 131, 3) := by decide +kernel
theorem dX10_findEdges_41 : decode cX10_findEdges 41 = .ok (.if_icmp .ge 99, 3) := by decide +kernel
theorem dX10_findEdges_44 : decode cX10_findEdges 44 = .ok (.aload_n 0, 1) := by decide +kernel
theorem dX10_findEdges_45 : decode cX10_findEdges 45 = .ok (.iload 9, 2) := by decide +kernel
theorem dX10_findEdges_47 : decode cX10_findEdges 47 = .ok (.iload_n 1, 1) := by decide +kernel
theorem dX10_findEdges_48 : decode cX10_findEdges 48 = .ok (.invokevirtual 145, 3) := by decide +kernel
theorem dX10_findEdges_51 : decode cX10_findEdges 51 = .ok (.ifCond .eq 83, 3) := by decide +kernel
theorem dX10_findEdges_54 : decode cX10_findEdges 54 = .ok (.aload_n 0, 1) := by decide +kernel
theorem dX10_findEdges_55 : decode cX10_findEdges 55 = .ok (.getfield 63, 3) := by decide +kernel
theorem dX10_findEdges_58 : decode cX10_findEdges 58 = .ok (.iconst 2, 1) := by decide +kernel
theorem dX10_findEdges_59 : decode cX10_findEdges 59 = .ok (.iload 9, 2) := by decide +kernel
theorem dX10_findEdges_61 : decode cX10_findEdges 61 = .ok (.imul, 1) := by decide +kernel
theorem dX10_findEdges_62 : decode cX10_findEdges 62 = .ok (.iload_n 2, 1) := by decide +kernel
theorem dX10_findEdges_63 : decode cX10_findEdges 63 = .ok (.iadd, 1) := by decide +kernel
theorem dX10_findEdges_64 : decode cX10_findEdges 64 = .ok (.iaload, 1) := by decide +kernel
theorem dX10_findEdges_65 : decode cX10_findEdges 65 = .ok (.i2l, 1) := by decide +kernel
theorem dX10_findEdges_66 : decode cX10_findEdges 66 = .ok (.lstore 10, 2) := by decide +kernel
theorem dX10_findEdges_68 : decode cX10_findEdges 68 = .ok (.aload_n 0, 1) := by decide +kernel
theorem dX10_findEdges_69 : decode cX10_findEdges 69 = .ok (.getfield 66, 3) := by decide +kernel
theorem dX10_findEdges_72 : decode cX10_findEdges 72 = .ok (.iconst 2, 1) := by decide +kernel
theorem dX10_findEdges_73 : decode cX10_findEdges 73 = .ok (.iload 9, 2) := by decide +kernel
theorem dX10_findEdges_75 : decode cX10_findEdges 75 = .ok (.imul, 1) := by decide +kernel
theorem dX10_findEdges_76 : decode cX10_findEdges 76 = .ok (.iload_n 2, 1) := by decide +kernel
theorem dX10_findEdges_77 : decode cX10_findEdges 77 = .ok (.iadd, 1) := by decide +kernel
theorem dX10_findEdges_78 : decode cX10_findEdges 78 = .ok (.iaload, 1) := by decide +kernel
theorem dX10_findEdges_79 : decode cX10_findEdges 79 = .ok (.i2l, 1) := by decide +kernel
theorem dX10_findEdges_80 : decode cX10_findEdges 80 = .ok (.lconst 1, 1) := by decide +kernel
theorem dX10_findEdges_81 : decode cX10_findEdges 81 = .ok (.ladd, 1) := by decide +kernel
theorem dX10_findEdges_82 : decode cX10_findEdges 82 = .ok (.lstore 12, 2) := by decide +kernel
theorem dX10_findEdges_84 : decode cX10_findEdges 84 = .ok (.lload 10, 2) := by decide +kernel
theorem dX10_findEdges_86 : decode cX10_findEdges 86 = .ok (.lload 4, 2) := by decide +kernel
theorem dX10_findEdges_88 : decode cX10_findEdges 88 = .ok (.lcmp, 1) := by decide +kernel
theorem dX10_findEdges_89 : decode cX10_findEdges 89 = .ok (.ifCond .le 16, 3) := by decide +kernel
theorem dX10_findEdges_92 : decode cX10_findEdges 92 = .ok (.lload 10, 2) := by decide +kernel
theorem dX10_findEdges_94 : decode cX10_findEdges 94 = .ok (.lload 7, 2) := by decide +kernel
theorem dX10_findEdges_96 : decode cX10_findEdges 96 = .ok (.lcmp, 1) := by decide +kernel
theorem dX10_findEdges_97 : decode cX10_findEdges 97 = .ok (.ifCond .ge 8, 3) := by decide +kernel
theorem dX10_findEdges_100 : decode cX10_findEdges 100 = .ok (.lload 10, 2) := by decide +kernel
theorem dX10_findEdges_102 : decode cX10_findEdges 102 = .ok (.goto 5, 3) := by decide +kernel
theorem dX10_findEdges_105 : decode cX10_findEdges 105 = .ok (.lload 7, 2) := by decide +kernel
theorem dX10_findEdges_107 : decode cX10_findEdges 107 = .ok (.lstore 7, 2) := by decide +kernel
theorem dX10_findEdges_109 : decode cX10_findEdges 109 = .ok (.lload 12, 2) := by decide +kernel
theorem dX10_findEdges_111 : decode cX10_findEdges 111 = .ok (.lload 4, 2) := by decide +kernel
theorem dX10_findEdges_113 : decode cX10_findEdges 113 = .ok (.lcmp, 1) := by decide +kernel
theorem dX10_findEdges_114 : decode cX10_findEdges 114 = .ok (.ifCond .le 16, 3) := by decide +kernel
theorem dX10_findEdges_117 : decode cX10_findEdges 117 = .ok (.lload 12, 2) := by decide +kernel
theorem dX10_findEdges_119 : decode cX10_findEdges 119 = .ok (.lload 7, 2) := by decide +kernel
theorem dX10_findEdges_121 : decode cX10_findEdges 121 = .ok (.lcmp, 1) := by decide +kernel
theorem dX10_findEdges_122 : decode cX10_findEdges 122 = .ok (.ifCond .ge 8, 3) := by decide +kernel
theorem dX10_findEdges_125 : decode cX10_findEdges 125 = .ok (.lload 12, 2) := by decide +kernel
theorem dX10_findEdges_127 : decode cX10_findEdges 127 = .ok (.goto 5, 3) := by decide +kernel
theorem dX10_findEdges_130 : decode cX10_findEdges 130 = .ok (.lload 7, 2) := by decide +kernel
theorem dX10_findEdges_132 : decode cX10_findEdges 132 = .ok (.lstore 7, 2) := by decide +kernel
theorem dX10_findEdges_134 : decode cX10_findEdges 134 = .ok (.iinc 9 1, 3) := by decide +kernel
theorem dX10_findEdges_137 : decode cX10_findEdges 137 = .ok (.goto (-102), 3) := by decide +kernel
theorem dX10_findEdges_140 : decode cX10_findEdges 140 = .ok (.lload 7, 2) := by decide +kernel
theorem dX10_findEdges_142 : decode cX10_findEdges 142 = .ok (.ldc2_w 174, 3) := by decide +kernel
theorem dX10_findEdges_145 : decode cX10_findEdges 145 = .ok (.lcmp, 1) := by decide +kernel
theorem dX10_findEdges_146 : decode cX10_findEdges 146 = .ok (.ifCond .ge 7, 3) := by decide +kernel
theorem dX10_findEdges_149 : decode cX10_findEdges 149 = .ok (.iconst 1, 1) := by decide +kernel
theorem dX10_findEdges_150 : decode cX10_findEdges 150 = .ok (.goto 4, 3) := by decide +kernel
theorem dX10_findEdges_153 : decode cX10_findEdges 153 = .ok (.iconst 0, 1) := by decide +kernel
theorem dX10_findEdges_154 : decode cX10_findEdges 154 = .ok (.istore 6, 2) := by decide +kernel
theorem dX10_findEdges_156 : decode cX10_findEdges 156 = .ok (.iload 6, 2) := by decide +kernel
theorem dX10_findEdges_158 : decode cX10_findEdges 158 = .ok (.ifCond .eq 23, 3) := by decide +kernel
theorem dX10_findEdges_161 : decode cX10_findEdges 161 = .ok (.aload_n 0, 1) := by decide +kernel
theorem dX10_findEdges_162 : decode cX10_findEdges 162 = .ok (.getfield 94, 3) := by decide +kernel
theorem dX10_findEdges_165 : decode cX10_findEdges 165 = .ok (.bipush 34, 2) := by decide +kernel
theorem dX10_findEdges_167 : decode cX10_findEdges 167 = .ok (.iload_n 2, 1) := by decide +kernel
theorem dX10_findEdges_168 : decode cX10_findEdges 168 = .ok (.imul, 1) := by decide +kernel
theorem dX10_findEdges_169 : decode cX10_findEdges 169 = .ok (.iload_n 3, 1) := by decide +kernel
theorem dX10_findEdges_170 : decode cX10_findEdges 170 = .ok (.iadd, 1) := by decide +kernel
theorem dX10_findEdges_171 : decode cX10_findEdges 171 = .ok (.lload 7, 2) := by decide +kernel
theorem dX10_findEdges_173 : decode cX10_findEdges 173 = .ok (.lastore, 1) := by decide +kernel
theorem dX10_findEdges_174 : decode cX10_findEdges 174 = .ok (.iinc 3 1, 3) := by decide +kernel
theorem dX10_findEdges_177 : decode cX10_findEdges 177 = .ok (.lload 7, 2) := by decide +kernel
theorem dX10_findEdges_179 : decode cX10_findEdges 179 = .ok (.lstore 4, 2) := by decide +kernel
theorem dX10_findEdges_181 : decode cX10_findEdges 181 = .ok (.goto (-159), 3) := by decide +kernel
theorem dX10_findEdges_184 : decode cX10_findEdges 184 = .ok (.aload_n 0, 1) := by decide +kernel
theorem dX10_findEdges_185 : decode cX10_findEdges 185 = .ok (.getfield 97, 3) := by decide +kernel
theorem dX10_findEdges_188 : decode cX10_findEdges 188 = .ok (.iload_n 2, 1) := by decide +kernel
theorem dX10_findEdges_189 : decode cX10_findEdges 189 = .ok (.iload_n 3, 1) := by decide +kernel
theorem dX10_findEdges_190 : decode cX10_findEdges 190 = .ok (.iastore, 1) := by decide +kernel
theorem dX10_findEdges_191 : decode cX10_findEdges 191 = .ok (.return_, 1) := by decide +kernel
theorem dX10_nextClass_0 : decode cX10_nextClass 0 = .ok (.iload_n 1, 1) := by decide +kernel
theorem dX10_nextClass_1 : decode cX10_nextClass 1 = .ok (.istore_n 2, 1) := by decide +kernel
theorem dX10_nextClass_2 : decode cX10_nextClass 2 = .ok (.iload_n 2, 1) := by decide +kernel
theorem dX10_nextClass_3 : decode cX10_nextClass 3 = .ok (.bipush 12, 2) := by decide +kernel
theorem dX10_nextClass_5 : decode cX10_nextClass 5 = .ok (.if_icmp .ge 18, 3) := by decide +kernel
theorem dX10_nextClass_8 : decode cX10_nextClass 8 = .ok (.aload_n 0, 1) := by decide +kernel
theorem dX10_nextClass_9 : decode cX10_nextClass 9 = .ok (.getfield 20, 3) := by decide +kernel
theorem dX10_nextClass_12 : decode cX10_nextClass 12 = .ok (.iload_n 2, 1) := by decide +kernel
theorem dX10_nextClass_13 : decode cX10_nextClass 13 = .ok (.baload, 1) := by decide +kernel
theorem dX10_nextClass_14 : decode cX10_nextClass 14 = .ok (.ifCond .eq 9, 3) := by decide +kernel
theorem dX10_nextClass_17 : decode cX10_nextClass 17 = .ok (.iinc 2 1, 3) := by decide +kernel
theorem dX10_nextClass_20 : decode cX10_nextClass 20 = .ok (.goto (-18), 3) := by decide +kernel
theorem dX10_nextClass_23 : decode cX10_nextClass 23 = .ok (.iload_n 2, 1) := by decide +kernel
theorem dX10_nextClass_24 : decode cX10_nextClass 24 = .ok (.ireturn, 1) := by decide +kernel
set_option maxRecDepth 20000 in
theorem ggX10_firstTuple_X10_nextClass : GoodIn wsX10_firstTuple wsX10_nextClass := goodIn_r _ [10, 11, 28, 29, 30, 31, 32, 33, 34, 35, 36, 37, 38, 39, 40, 41, 42, 43, 44, 45, 46, 47, 48, 49, 50, 51, 52, 53, 54, 55, 56, 57, 58, 59, 60, 61, 62, 63, 64, 65, 66] (by decide +kernel) (by decide +kernel)
set_option maxRecDepth 20000 in
theorem gX10_firstTuple_X10_nextClass : GoodIn wsX10_firstTuple (wsV RX10 252 RX10 yX10_nextClass wsX10_nextClass) := goodIn_app (goodIn_of _ (by decide +kernel)) ggX10_firstTuple_X10_nextClass
set_option maxRecDepth 20000 in
theorem ggX10_firstTuple_X10_findEdges : GoodIn wsX10_firstTuple wsX10_findEdges := goodIn_r _ [15, 16, 4, 17, 18, 19, 20, 21, 22, 23, 24, 9, 25, 26, 27, 28, 29, 30, 31, 32, 33, 34, 35, 36, 37, 38, 39, 40, 41, 42, 43, 44, 45, 46, 47, 48, 49, 50, 51, 52, 53, 54, 55, 56, 57, 58, 59, 60, 61, 62, 63, 64, 65, 66] (by decide +kernel) (by decide +kernel)
set_option maxRecDepth 20000 in
theorem gX10_firstTuple_X10_findEdges : GoodIn wsX10_firstTuple (wsV RX10 255 RX10 yX10_findEdges wsX10_findEdges) := goodIn_app (goodIn_of _ (by decide +kernel)) ggX10_firstTuple_X10_findEdges
theorem dX10_firstTuple_0 : decode cX10_firstTuple 0 = .ok (.iconst 0, 1) := by decide +kernel
theorem dX10_firstTuple_1 : decode cX10_firstTuple 1 = .ok (.istore_n 2, 1) := by decide +kernel
theorem dX10_firstTuple_2 : decode cX10_firstTuple 2 = .ok (.iload_n 2, 1) := by decide +kernel
theorem dX10_firstTuple_3 : decode cX10_firstTuple 3 = .ok (.iconst 2, 1) := by decide +kernel
theorem dX10_firstTuple_4 : decode cX10_firstTuple 4 = .ok (.if_icmp .ge 80, 3) := by decide +kernel
theorem dX10_firstTuple_7 : decode cX10_firstTuple 7 = .ok (.aload_n 0, 1) := by decide +kernel
theorem dX10_firstTuple_8 : decode cX10_firstTuple 8 = .ok (.getfield 82, 3) := by decide +kernel
theorem dX10_firstTuple_11 : decode cX10_firstTuple 11 = .ok (.iload_n 2, 1) := by decide +kernel
theorem dX10_firstTuple_12 : decode cX10_firstTuple 12 = .ok (.iload_n 2, 1) := by decide +kernel
theorem dX10_firstTuple_13 : decode cX10_firstTuple 13 = .ok (.aload_n 0, 1) := by decide +kernel
theorem dX10_firstTuple_14 : decode cX10_firstTuple 14 = .ok (.getfield 29, 3) := by decide +kernel
theorem dX10_firstTuple_17 : decode cX10_firstTuple 17 = .ok (.iload_n 1, 1) := by decide +kernel
theorem dX10_firstTuple_18 : decode cX10_firstTuple 18 = .ok (.iaload, 1) := by decide +kernel
theorem dX10_firstTuple_19 : decode cX10_firstTuple 19 = .ok (.if_icmp .ge 11, 3) := by decide +kernel
theorem dX10_firstTuple_22 : decode cX10_firstTuple 22 = .ok (.aload_n 0, 1) := by decide +kernel
theorem dX10_firstTuple_23 : decode cX10_firstTuple 23 = .ok (.iconst 0, 1) := by decide +kernel
theorem dX10_firstTuple_24 : decode cX10_firstTuple 24 = .ok (.invokevirtual 252, 3) := by decide +kernel
theorem dX10_firstTuple_27 : decode cX10_firstTuple 27 = .ok (.goto 4, 3) := by decide +kernel
theorem dX10_firstTuple_30 : decode cX10_firstTuple 30 = .ok (.iconst 0, 1) := by decide +kernel
theorem dX10_firstTuple_31 : decode cX10_firstTuple 31 = .ok (.iastore, 1) := by decide +kernel
theorem dX10_firstTuple_32 : decode cX10_firstTuple 32 = .ok (.aload_n 0, 1) := by decide +kernel
theorem dX10_firstTuple_33 : decode cX10_firstTuple 33 = .ok (.getfield 85, 3) := by decide +kernel
theorem dX10_firstTuple_36 : decode cX10_firstTuple 36 = .ok (.iload_n 2, 1) := by decide +kernel
theorem dX10_firstTuple_37 : decode cX10_firstTuple 37 = .ok (.iload_n 2, 1) := by decide +kernel
theorem dX10_firstTuple_38 : decode cX10_firstTuple 38 = .ok (.aload_n 0, 1) := by decide +kernel
theorem dX10_firstTuple_39 : decode cX10_firstTuple 39 = .ok (.getfield 29, 3) := by decide +kernel
theorem dX10_firstTuple_42 : decode cX10_firstTuple 42 = .ok (.iload_n 1, 1) := by decide +kernel
theorem dX10_firstTuple_43 : decode cX10_firstTuple 43 = .ok (.iaload, 1) := by decide +kernel
theorem dX10_firstTuple_44 : decode cX10_firstTuple 44 = .ok (.if_icmp .ge 9, 3) := by decide +kernel
theorem dX10_firstTuple_47 : decode cX10_firstTuple 47 = .ok (.ldc2_w 250, 3) := by decide +kernel
theorem dX10_firstTuple_50 : decode cX10_firstTuple 50 = .ok (.goto 4, 3) := by decide +kernel
theorem dX10_firstTuple_53 : decode cX10_firstTuple 53 = .ok (.lconst 0, 1) := by decide +kernel
theorem dX10_firstTuple_54 : decode cX10_firstTuple 54 = .ok (.lastore, 1) := by decide +kernel
theorem dX10_firstTuple_55 : decode cX10_firstTuple 55 = .ok (.aload_n 0, 1) := by decide +kernel
theorem dX10_firstTuple_56 : decode cX10_firstTuple 56 = .ok (.getfield 100, 3) := by decide +kernel
theorem dX10_firstTuple_59 : decode cX10_firstTuple 59 = .ok (.iload_n 2, 1) := by decide +kernel
theorem dX10_firstTuple_60 : decode cX10_firstTuple 60 = .ok (.iconst 0, 1) := by decide +kernel
theorem dX10_firstTuple_61 : decode cX10_firstTuple 61 = .ok (.iastore, 1) := by decide +kernel
theorem dX10_firstTuple_62 : decode cX10_firstTuple 62 = .ok (.iload_n 2, 1) := by decide +kernel
theorem dX10_firstTuple_63 : decode cX10_firstTuple 63 = .ok (.aload_n 0, 1) := by decide +kernel
theorem dX10_firstTuple_64 : decode cX10_firstTuple 64 = .ok (.getfield 29, 3) := by decide +kernel
theorem dX10_firstTuple_67 : decode cX10_firstTuple 67 = .ok (.iload_n 1, 1) := by decide +kernel
theorem dX10_firstTuple_68 : decode cX10_firstTuple 68 = .ok (.iaload, 1) := by decide +kernel
theorem dX10_firstTuple_69 : decode cX10_firstTuple 69 = .ok (.if_icmp .ge 9, 3) := by decide +kernel
