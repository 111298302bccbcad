theorem dX0_init_0 : decode cX0_init 0 = .ok (.aload_n 0, 1) := by decide +kernel
theorem dX0_init_1 : decode cX0_init 1 = .ok (.invokespecial 3, 3) := by decide +kernel
theorem dX0_init_4 : decode cX0_init 4 = .ok (.aload_n 0, 1) := by decide +kernel
theorem dX0_init_5 : decode cX0_init 5 = .ok (.sipush 204, 3) := by decide +kernel
theorem dX0_init_8 : decode cX0_init 8 = .ok (.newarray .int, 2) := by decide +kernel
theorem dX0_init_10 : decode cX0_init 10 = .ok (.putfield 9, 3) := by decide +kernel
theorem dX0_init_13 : decode cX0_init 13 = .ok (.aload_n 0, 1) := by decide +kernel
theorem dX0_init_14 : decode cX0_init 14 = .ok (.sipush 204, 3) := by decide +kernel
theorem dX0_init_17 : decode cX0_init 17 = .ok (.newarray .int, 2) := by decide +kernel
theorem dX0_init_19 : decode cX0_init 19 = .ok (.putfield 15, 3) := by decide +kernel
theorem dX0_init_22 : decode cX0_init 22 = .ok (.aload_n 0, 1) := by decide +kernel
theorem dX0_init_23 : decode cX0_init 23 = .ok (.sipush 204, 3) := by decide +kernel
theorem dX0_init_26 : decode cX0_init 26 = .ok (.newarray .int, 2) := by decide +kernel
theorem dX0_init_28 : decode cX0_init 28 = .ok (.putfield 18, 3) := by decide +kernel
theorem dX0_init_31 : decode cX0_init 31 = .ok (.aload_n 0, 1) := by decide +kernel
theorem dX0_init_32 : decode cX0_init 32 = .ok (.iconst 0, 1) := by decide +kernel
theorem dX0_init_33 : decode cX0_init 33 = .ok (.putfield 21, 3) := by decide +kernel
theorem dX0_init_36 : decode cX0_init 36 = .ok (.aload_n 0, 1) := by decide +kernel
theorem dX0_init_37 : decode cX0_init 37 = .ok (.bipush 17, 2) := by decide +kernel
theorem dX0_init_39 : decode cX0_init 39 = .ok (.newarray .int, 2) := by decide +kernel
theorem dX0_init_41 : decode cX0_init 41 = .ok (.putfield 25, 3) := by decide +kernel
theorem dX0_init_44 : decode cX0_init 44 = .ok (.aload_n 0, 1) := by decide +kernel
theorem dX0_init_45 : decode cX0_init 45 = .ok (.bipush 17, 2) := by decide +kernel
theorem dX0_init_47 : decode cX0_init 47 = .ok (.newarray .int, 2) := by decide +kernel
theorem dX0_init_49 : decode cX0_init 49 = .ok (.putfield 28, 3) := by decide +kernel
theorem dX0_init_52 : decode cX0_init 52 = .ok (.aload_n 0, 1) := by decide +kernel
theorem dX0_init_53 : decode cX0_init 53 = .ok (.iconst 0, 1) := by decide +kernel
theorem dX0_init_54 : decode cX0_init 54 = .ok (.putfield 31, 3) := by decide +kernel
theorem dX0_init_57 : decode cX0_init 57 = .ok (.return_, 1) := by decide +kernel
set_option maxRecDepth 20000 in
theorem ggX0_fill_X1_hasPlace : GoodIn wsX0_fill wsX1_hasPlace := goodIn_r _ [8, 9, 85, 86, 87, 88, 89, 90, 91, 92, 93, 94] (by decide +kernel) (by decide +kernel)
set_option maxRecDepth 20000 in
theorem gX0_fill_X1_hasPlace : GoodIn wsX0_fill (wsV RX0 34 RX1 yX1_hasPlace wsX1_hasPlace) := goodIn_app (goodIn_of _ (by decide +kernel)) ggX0_fill_X1_hasPlace
set_option maxRecDepth 20000 in
theorem ggX0_fill_X0_addNew : GoodIn wsX0_fill wsX0_addNew := goodIn_r _ [14, 1, 15, 16, 17, 78, 79, 80, 81, 82, 83, 84] (by decide +kernel) (by decide +kernel)
set_option maxRecDepth 20000 in
theorem gX0_fill_X0_addNew : GoodIn wsX0_fill (wsV RX0 43 RX0 yX0_addNew wsX0_addNew) := goodIn_app (goodIn_of _ (by decide +kernel)) ggX0_fill_X0_addNew
set_option maxRecDepth 20000 in
theorem ggX0_fill_X0_findStarts : GoodIn wsX0_fill wsX0_findStarts := goodIn_r _ [21, 22, 23, 24, 25, 26, 27, 28, 29, 30, 31, 32, 33, 13, 34, 35, 36, 37, 7, 38, 39, 40, 41, 42, 43, 44, 45, 46, 47, 48, 49, 50, 51, 78, 79, 80, 81, 82, 83, 84, 85, 86, 87, 88, 89, 90, 91, 92, 93, 94, 95, 96, 97, 98, 99, 100, 101, 102, 103] (by decide +kernel) (by decide +kernel)
set_option maxRecDepth 20000 in
theorem gX0_fill_X0_findStarts : GoodIn wsX0_fill (wsV RX0 47 RX0 yX0_findStarts wsX0_findStarts) := goodIn_app (goodIn_of _ (by decide +kernel)) ggX0_fill_X0_findStarts
set_option maxRecDepth 20000 in
theorem ggX0_fill_X8_isAbstract : GoodIn wsX0_fill wsX8_isAbstract := goodIn_r _ [56, 57, 104, 105, 106, 107, 108] (by decide +kernel) (by decide +kernel)
set_option maxRecDepth 20000 in
theorem gX0_fill_X8_isAbstract : GoodIn wsX0_fill (wsV RX0 55 RX8 yX8_isAbstract wsX8_isAbstract) := goodIn_app (goodIn_of _ (by decide +kernel)) ggX0_fill_X8_isAbstract
set_option maxRecDepth 20000 in
theorem ggX0_fill_X1_takersOfClass : GoodIn wsX0_fill wsX1_takersOfClass := goodIn_r _ [61, 39, 40, 62, 63, 64, 48, 65, 66, 67, 68, 69, 70, 71, 55, 72, 73, 85, 86, 87, 88, 89, 90, 91, 92, 93, 94, 95, 96, 97, 98, 99, 100, 101, 102, 103, 104, 105, 106, 107, 108] (by decide +kernel) (by decide +kernel)
set_option maxRecDepth 20000 in
theorem gX0_fill_X1_takersOfClass : GoodIn wsX0_fill (wsV RX0 60 RX1 yX1_takersOfClass wsX1_takersOfClass) := goodIn_app (goodIn_of _ (by decide +kernel)) ggX0_fill_X1_takersOfClass
set_option maxRecDepth 20000 in
theorem ggX0_fill_X0_addClass : GoodIn wsX0_fill wsX0_addClass := goodIn_r _ [77, 22, 30, 29, 10, 11, 12, 13, 14, 1, 15, 16, 17, 78, 79, 80, 81, 82, 83, 84] (by decide +kernel) (by decide +kernel)
set_option maxRecDepth 20000 in
theorem gX0_fill_X0_addClass : GoodIn wsX0_fill (wsV RX0 64 RX0 yX0_addClass wsX0_addClass) := goodIn_app (goodIn_of _ (by decide +kernel)) ggX0_fill_X0_addClass
theorem dX0_fill_0 : decode cX0_fill 0 = .ok (.aload_n 0, 1) := by decide +kernel
theorem dX0_fill_1 : decode cX0_fill 1 = .ok (.iconst 0, 1) := by decide +kernel
theorem dX0_fill_2 : decode cX0_fill 2 = .ok (.putfield 21, 3) := by decide +kernel
theorem dX0_fill_5 : decode cX0_fill 5 = .ok (.aload_n 1, 1) := by decide +kernel
theorem dX0_fill_6 : decode cX0_fill 6 = .ok (.iload_n 2, 1) := by decide +kernel
theorem dX0_fill_7 : decode cX0_fill 7 = .ok (.invokevirtual 34, 3) := by decide +kernel
theorem dX0_fill_10 : decode cX0_fill 10 = .ok (.ifCond .ne 14, 3) := by decide +kernel
theorem dX0_fill_13 : decode cX0_fill 13 = .ok (.aload_n 0, 1) := by decide +kernel
theorem dX0_fill_14 : decode cX0_fill 14 = .ok (.iconst 0, 1) := by decide +kernel
theorem dX0_fill_15 : decode cX0_fill 15 = .ok (.iconst 0, 1) := by decide +kernel
theorem dX0_fill_16 : decode cX0_fill 16 = .ok (.aload_n 1, 1) := by decide +kernel
theorem dX0_fill_17 : decode cX0_fill 17 = .ok (.getfield 40, 3) := by decide +kernel
theorem dX0_fill_20 : decode cX0_fill 20 = .ok (.invokevirtual 43, 3) := by decide +kernel
theorem dX0_fill_23 : decode cX0_fill 23 = .ok (.return_, 1) := by decide +kernel
theorem dX0_fill_24 : decode cX0_fill 24 = .ok (.aload_n 0, 1) := by decide +kernel
theorem dX0_fill_25 : decode cX0_fill 25 = .ok (.aload_n 1, 1) := by decide +kernel
theorem dX0_fill_26 : decode cX0_fill 26 = .ok (.iload_n 2, 1) := by decide +kernel
theorem dX0_fill_27 : decode cX0_fill 27 = .ok (.invokevirtual 47, 3) := by decide +kernel
theorem dX0_fill_30 : decode cX0_fill 30 = .ok (.iconst 0, 1) := by decide +kernel
theorem dX0_fill_31 : decode cX0_fill 31 = .ok (.istore_n 3, 1) := by decide +kernel
theorem dX0_fill_32 : decode cX0_fill 32 = .ok (.iload_n 3, 1) := by decide +kernel
theorem dX0_fill_33 : decode cX0_fill 33 = .ok (.bipush 12, 2) := by decide +kernel
theorem dX0_fill_35 : decode cX0_fill 35 = .ok (.if_icmp .ge 36, 3) := by decide +kernel
theorem dX0_fill_38 : decode cX0_fill 38 = .ok (.aload_n 1, 1) := by decide +kernel
theorem dX0_fill_39 : decode cX0_fill 39 = .ok (.getfield 51, 3) := by decide +kernel
theorem dX0_fill_42 : decode cX0_fill 42 = .ok (.iload_n 3, 1) := by decide +kernel
theorem dX0_fill_43 : decode cX0_fill 43 = .ok (.invokevirtual 55, 3) := by decide +kernel
theorem dX0_fill_46 : decode cX0_fill 46 = .ok (.ifCond .ne 19, 3) := by decide +kernel
theorem dX0_fill_49 : decode cX0_fill 49 = .ok (.aload_n 0, 1) := by decide +kernel
theorem dX0_fill_50 : decode cX0_fill 50 = .ok (.iload_n 3, 1) := by decide +kernel
theorem dX0_fill_51 : decode cX0_fill 51 = .ok (.aload_n 1, 1) := by decide +kernel
theorem dX0_fill_52 : decode cX0_fill 52 = .ok (.iload_n 2, 1) := by decide +kernel
theorem dX0_fill_53 : decode cX0_fill 53 = .ok (.iload_n 3, 1) := by decide +kernel
theorem dX0_fill_54 : decode cX0_fill 54 = .ok (.invokevirtual 60, 3) := by decide +kernel
theorem dX0_fill_57 : decode cX0_fill 57 = .ok (.aload_n 1, 1) := by decide +kernel
theorem dX0_fill_58 : decode cX0_fill 58 = .ok (.getfield 40, 3) := by decide +kernel
theorem dX0_fill_61 : decode cX0_fill 61 = .ok (.iand, 1) := by decide +kernel
theorem dX0_fill_62 : decode cX0_fill 62 = .ok (.invokevirtual 64, 3) := by decide +kernel
theorem dX0_fill_65 : decode cX0_fill 65 = .ok (.iinc 3 1, 3) := by decide +kernel
theorem dX0_fill_68 : decode cX0_fill 68 = .ok (.goto (-36), 3) := by decide +kernel
theorem dX0_fill_71 : decode cX0_fill 71 = .ok (.return_, 1) := by decide +kernel
set_option maxRecDepth 20000 in
theorem ggX0_addClass_X0_addNew : GoodIn wsX0_addClass wsX0_addNew := goodIn_r _ [8, 9, 10, 11, 12, 13, 14, 15, 16, 17, 18, 19] (by decide +kernel) (by decide +kernel)
set_option maxRecDepth 20000 in
theorem gX0_addClass_X0_addNew : GoodIn wsX0_addClass (wsV RX0 43 RX0 yX0_addNew wsX0_addNew) := goodIn_app (goodIn_of _ (by decide +kernel)) ggX0_addClass_X0_addNew
theorem dX0_addClass_0 : decode cX0_addClass 0 = .ok (.iconst 0, 1) := by decide +kernel
theorem dX0_addClass_1 : decode cX0_addClass 1 = .ok (.istore_n 3, 1) := by decide +kernel
theorem dX0_addClass_2 : decode cX0_addClass 2 = .ok (.iload_n 3, 1) := by decide +kernel
theorem dX0_addClass_3 : decode cX0_addClass 3 = .ok (.aload_n 0, 1) := by decide +kernel
theorem dX0_addClass_4 : decode cX0_addClass 4 = .ok (.getfield 31, 3) := by decide +kernel
theorem dX0_addClass_7 : decode cX0_addClass 7 = .ok (.if_icmp .ge 28, 3) := by decide +kernel
theorem dX0_addClass_10 : decode cX0_addClass 10 = .ok (.aload_n 0, 1) := by decide +kernel
theorem dX0_addClass_11 : decode cX0_addClass 11 = .ok (.iload_n 1, 1) := by decide +kernel
theorem dX0_addClass_12 : decode cX0_addClass 12 = .ok (.aload_n 0, 1) := by decide +kernel
theorem dX0_addClass_13 : decode cX0_addClass 13 = .ok (.getfield 25, 3) := by decide +kernel
theorem dX0_addClass_16 : decode cX0_addClass 16 = .ok (.iload_n 3, 1) := by decide +kernel
theorem dX0_addClass_17 : decode cX0_addClass 17 = .ok (.iaload, 1) := by decide +kernel
theorem dX0_addClass_18 : decode cX0_addClass 18 = .ok (.iload_n 2, 1) := by decide +kernel
theorem dX0_addClass_19 : decode cX0_addClass 19 = .ok (.aload_n 0, 1) := by decide +kernel
theorem dX0_addClass_20 : decode cX0_addClass 20 = .ok (.getfield 28, 3) := by decide +kernel
theorem dX0_addClass_23 : decode cX0_addClass 23 = .ok (.iload_n 3, 1) := by decide +kernel
theorem dX0_addClass_24 : decode cX0_addClass 24 = .ok (.iaload, 1) := by decide +kernel
theorem dX0_addClass_25 : decode cX0_addClass 25 = .ok (.iand, 1) := by decide +kernel
theorem dX0_addClass_26 : decode cX0_addClass 26 = .ok (.invokevirtual 43, 3) := by decide +kernel
theorem dX0_addClass_29 : decode cX0_addClass 29 = .ok (.iinc 3 1, 3) := by decide +kernel
theorem dX0_addClass_32 : decode cX0_addClass 32 = .ok (.goto (-30), 3) := by decide +kernel
theorem dX0_addClass_35 : decode cX0_addClass 35 = .ok (.return_, 1) := by decide +kernel
theorem dX0_addNew_0 : decode cX0_addNew 0 = .ok (.iconst 0, 1) := by decide +kernel
theorem dX0_addNew_1 : decode cX0_addNew 1 = .ok (.istore 4, 2) := by decide +kernel
theorem dX0_addNew_3 : decode cX0_addNew 3 = .ok (.iload 4, 2) := by decide +kernel
theorem dX0_addNew_5 : decode cX0_addNew 5 = .ok (.aload_n 0, 1) := by decide +kernel
theorem dX0_addNew_6 : decode cX0_addNew 6 = .ok (.getfield 21, 3) := by decide +kernel
theorem dX0_addNew_9 : decode cX0_addNew 9 = .ok (.if_icmp .ge 21, 3) := by decide +kernel
theorem dX0_addNew_12 : decode cX0_addNew 12 = .ok (.aload_n 0, 1) := by decide +kernel
theorem dX0_addNew_13 : decode cX0_addNew 13 = .ok (.getfield 18, 3) := by decide +kernel
theorem dX0_addNew_16 : decode cX0_addNew 16 = .ok (.iload 4, 2) := by decide +kernel
theorem dX0_addNew_18 : decode cX0_addNew 18 = .ok (.iaload, 1) := by decide +kernel
theorem dX0_addNew_19 : decode cX0_addNew 19 = .ok (.iload_n 3, 1) := by decide +kernel
theorem dX0_addNew_20 : decode cX0_addNew 20 = .ok (.if_icmp .ne 4, 3) := by decide +kernel
theorem dX0_addNew_23 : decode cX0_addNew 23 = .ok (.return_, 1) := by decide +kernel
theorem dX0_addNew_24 : decode cX0_addNew 24 = .ok (.iinc 4 1, 3) := by decide +kernel
theorem dX0_addNew_27 : decode cX0_addNew 27 = .ok (.goto (-24), 3) := by decide +kernel
theorem dX0_addNew_30 : decode cX0_addNew 30 = .ok (.aload_n 0, 1) := by decide +kernel
theorem dX0_addNew_31 : decode cX0_addNew 31 = .ok (.getfield 21, 3) := by decide +kernel
theorem dX0_addNew_34 : decode cX0_addNew 34 = .ok (.sipush 204, 3) := by decide +kernel
theorem dX0_addNew_37 : decode cX0_addNew 37 = .ok (.if_icmp .ge 43, 3) := by decide +kernel
theorem dX0_addNew_40 : decode cX0_addNew 40 = .ok (.aload_n 0, 1) := by decide +kernel
theorem dX0_addNew_41 : decode cX0_addNew 41 = .ok (.getfield 9, 3) := by decide +kernel
theorem dX0_addNew_44 : decode cX0_addNew 44 = .ok (.aload_n 0, 1) := by decide +kernel
theorem dX0_addNew_45 : decode cX0_addNew 45 = .ok (.getfield 21, 3) := by decide +kernel
theorem dX0_addNew_48 : decode cX0_addNew 48 = .ok (.iload_n 1, 1) := by decide +kernel
theorem dX0_addNew_49 : decode cX0_addNew 49 = .ok (.iastore, 1) := by decide +kernel
theorem dX0_addNew_50 : decode cX0_addNew 50 = .ok (.aload_n 0, 1) := by decide +kernel
theorem dX0_addNew_51 : decode cX0_addNew 51 = .ok (.getfield 15, 3) := by decide +kernel
theorem dX0_addNew_54 : decode cX0_addNew 54 = .ok (.aload_n 0, 1) := by decide +kernel
theorem dX0_addNew_55 : decode cX0_addNew 55 = .ok (.getfield 21, 3) := by decide +kernel
theorem dX0_addNew_58 : decode cX0_addNew 58 = .ok (.iload_n 2, 1) := by decide +kernel
theorem dX0_addNew_59 : decode cX0_addNew 59 = .ok (.iastore, 1) := by decide +kernel
theorem dX0_addNew_60 : decode cX0_addNew 60 = .ok (.aload_n 0, 1) := by decide +kernel
theorem dX0_addNew_61 : decode cX0_addNew 61 = .ok (.getfield 18, 3) := by decide +kernel
theorem dX0_addNew_64 : decode cX0_addNew 64 = .ok (.aload_n 0, 1) := by decide +kernel
theorem dX0_addNew_65 : decode cX0_addNew 65 = .ok (.getfield 21, 3) := by decide +kernel
theorem dX0_addNew_68 : decode cX0_addNew 68 = .ok (.iload_n 3, 1) := by decide +kernel
theorem dX0_addNew_69 : decode cX0_addNew 69 = .ok (.iastore, 1) := by decide +kernel
theorem dX0_addNew_70 : decode cX0_addNew 70 = .ok (.aload_n 0, 1) := by decide +kernel
theorem dX0_addNew_71 : decode cX0_addNew 71 = .ok (.dup, 1) := by decide +kernel
theorem dX0_addNew_72 : decode cX0_addNew 72 = .ok (.getfield 21, 3) := by decide +kernel
theorem dX0_addNew_75 : decode cX0_addNew 75 = .ok (.iconst 1, 1) := by decide +kernel
theorem dX0_addNew_76 : decode cX0_addNew 76 = .ok (.iadd, 1) := by decide +kernel
theorem dX0_addNew_77 : decode cX0_addNew 77 = .ok (.putfield 21, 3) := by decide +kernel
theorem dX0_addNew_80 : decode cX0_addNew 80 = .ok (.return_, 1) := by decide +kernel
set_option maxRecDepth 20000 in
theorem ggX0_findStarts_X0_addStart : GoodIn wsX0_findStarts wsX0_addStart := goodIn_r _ [14, 1, 9, 33, 34, 35, 36, 37, 38, 39] (by decide +kernel) (by decide +kernel)
set_option maxRecDepth 20000 in
theorem gX0_findStarts_X0_addStart : GoodIn wsX0_findStarts (wsV RX0 71 RX0 yX0_addStart wsX0_addStart) := goodIn_app (goodIn_of _ (by decide +kernel)) ggX0_findStarts_X0_addStart
set_option maxRecDepth 20000 in
theorem ggX0_findStarts_X1_laidAt : GoodIn wsX0_findStarts wsX1_laidAt := goodIn_r _ [19, 20, 21, 40, 41, 42, 43, 44, 45, 46, 47, 48, 49] (by decide +kernel) (by decide +kernel)
set_option maxRecDepth 20000 in
theorem gX0_findStarts_X1_laidAt : GoodIn wsX0_findStarts (wsV RX0 78 RX1 yX1_laidAt wsX1_laidAt) := goodIn_app (goodIn_of _ (by decide +kernel)) ggX0_findStarts_X1_laidAt
set_option maxRecDepth 20000 in
theorem ggX0_findStarts_X1_takersOfWeight : GoodIn wsX0_findStarts wsX1_takersOfWeight := goodIn_r _ [25, 20, 21, 26, 27, 28, 29, 30, 31, 32, 40, 41, 42, 43, 44, 45, 46, 47, 48, 49, 50, 51, 52, 53, 54, 55, 56, 57, 58] (by decide +kernel) (by decide +kernel)
set_option maxRecDepth 20000 in
theorem gX0_findStarts_X1_takersOfWeight : GoodIn wsX0_findStarts (wsV RX0 95 RX1 yX1_takersOfWeight wsX1_takersOfWeight) := goodIn_app (goodIn_of _ (by decide +kernel)) ggX0_findStarts_X1_takersOfWeight
theorem dX0_findStarts_0 : decode cX0_findStarts 0 = .ok (.aload_n 0, 1) := by decide +kernel
theorem dX0_findStarts_1 : decode cX0_findStarts 1 = .ok (.iconst 0, 1) := by decide +kernel
theorem dX0_findStarts_2 : decode cX0_findStarts 2 = .ok (.putfield 31, 3) := by decide +kernel
theorem dX0_findStarts_5 : decode cX0_findStarts 5 = .ok (.aload_n 0, 1) := by decide +kernel
theorem dX0_findStarts_6 : decode cX0_findStarts 6 = .ok (.ldc 70, 2) := by decide +kernel
theorem dX0_findStarts_8 : decode cX0_findStarts 8 = .ok (.invokevirtual 71, 3) := by decide +kernel
theorem dX0_findStarts_11 : decode cX0_findStarts 11 = .ok (.iconst 0, 1) := by decide +kernel
theorem dX0_findStarts_12 : decode cX0_findStarts 12 = .ok (.istore_n 3, 1) := by decide +kernel
theorem dX0_findStarts_13 : decode cX0_findStarts 13 = .ok (.iload_n 3, 1) := by decide +kernel
theorem dX0_findStarts_14 : decode cX0_findStarts 14 = .ok (.aload_n 1, 1) := by decide +kernel
theorem dX0_findStarts_15 : decode cX0_findStarts 15 = .ok (.getfield 75, 3) := by decide +kernel
theorem dX0_findStarts_18 : decode cX0_findStarts 18 = .ok (.if_icmp .ge 65, 3) := by decide +kernel
theorem dX0_findStarts_21 : decode cX0_findStarts 21 = .ok (.aload_n 1, 1) := by decide +kernel
theorem dX0_findStarts_22 : decode cX0_findStarts 22 = .ok (.iload_n 3, 1) := by decide +kernel
theorem dX0_findStarts_23 : decode cX0_findStarts 23 = .ok (.invokevirtual 78, 3) := by decide +kernel
theorem dX0_findStarts_26 : decode cX0_findStarts 26 = .ok (.astore 4, 2) := by decide +kernel
theorem dX0_findStarts_28 : decode cX0_findStarts 28 = .ok (.aload 4, 2) := by decide +kernel
theorem dX0_findStarts_30 : decode cX0_findStarts 30 = .ok (.ifnull 47, 3) := by decide +kernel
theorem dX0_findStarts_33 : decode cX0_findStarts 33 = .ok (.aload 4, 2) := by decide +kernel
theorem dX0_findStarts_35 : decode cX0_findStarts 35 = .ok (.getfield 82, 3) := by decide +kernel
theorem dX0_findStarts_38 : decode cX0_findStarts 38 = .ok (.ifCond .ne 39, 3) := by decide +kernel
theorem dX0_findStarts_41 : decode cX0_findStarts 41 = .ok (.aload_n 0, 1) := by decide +kernel
theorem dX0_findStarts_42 : decode cX0_findStarts 42 = .ok (.aload 4, 2) := by decide +kernel
theorem dX0_findStarts_44 : decode cX0_findStarts 44 = .ok (.getfield 88, 3) := by decide +kernel
theorem dX0_findStarts_47 : decode cX0_findStarts 47 = .ok (.iload_n 2, 1) := by decide +kernel
theorem dX0_findStarts_48 : decode cX0_findStarts 48 = .ok (.iaload, 1) := by decide +kernel
theorem dX0_findStarts_49 : decode cX0_findStarts 49 = .ok (.invokevirtual 71, 3) := by decide +kernel
theorem dX0_findStarts_52 : decode cX0_findStarts 52 = .ok (.aload 4, 2) := by decide +kernel
theorem dX0_findStarts_54 : decode cX0_findStarts 54 = .ok (.getfield 91, 3) := by decide +kernel
theorem dX0_findStarts_57 : decode cX0_findStarts 57 = .ok (.iload_n 2, 1) := by decide +kernel
theorem dX0_findStarts_58 : decode cX0_findStarts 58 = .ok (.iaload, 1) := by decide +kernel
theorem dX0_findStarts_59 : decode cX0_findStarts 59 = .ok (.ldc 94, 2) := by decide +kernel
theorem dX0_findStarts_61 : decode cX0_findStarts 61 = .ok (.if_icmp .ge 16, 3) := by decide +kernel
theorem dX0_findStarts_64 : decode cX0_findStarts 64 = .ok (.aload_n 0, 1) := by decide +kernel
theorem dX0_findStarts_65 : decode cX0_findStarts 65 = .ok (.aload 4, 2) := by decide +kernel
theorem dX0_findStarts_67 : decode cX0_findStarts 67 = .ok (.getfield 91, 3) := by decide +kernel
theorem dX0_findStarts_70 : decode cX0_findStarts 70 = .ok (.iload_n 2, 1) := by decide +kernel
theorem dX0_findStarts_71 : decode cX0_findStarts 71 = .ok (.iaload, 1) := by decide +kernel
theorem dX0_findStarts_72 : decode cX0_findStarts 72 = .ok (.iconst 1, 1) := by decide +kernel
theorem dX0_findStarts_73 : decode cX0_findStarts 73 = .ok (.iadd, 1) := by decide +kernel
theorem dX0_findStarts_74 : decode cX0_findStarts 74 = .ok (.invokevirtual 71, 3) := by decide +kernel
theorem dX0_findStarts_77 : decode cX0_findStarts 77 = .ok (.iinc 3 1, 3) := by decide +kernel
theorem dX0_findStarts_80 : decode cX0_findStarts 80 = .ok (.goto (-67), 3) := by decide +kernel
theorem dX0_findStarts_83 : decode cX0_findStarts 83 = .ok (.iconst 0, 1) := by decide +kernel
theorem dX0_findStarts_84 : decode cX0_findStarts 84 = .ok (.istore_n 3, 1) := by decide +kernel
theorem dX0_findStarts_85 : decode cX0_findStarts 85 = .ok (.iload_n 3, 1) := by decide +kernel
theorem dX0_findStarts_86 : decode cX0_findStarts 86 = .ok (.aload_n 0, 1) := by decide +kernel
theorem dX0_findStarts_87 : decode cX0_findStarts 87 = .ok (.getfield 31, 3) := by decide +kernel
theorem dX0_findStarts_90 : decode cX0_findStarts 90 = .ok (.if_icmp .ge 26, 3) := by decide +kernel
theorem dX0_findStarts_93 : decode cX0_findStarts 93 = .ok (.aload_n 0, 1) := by decide +kernel
theorem dX0_findStarts_94 : decode cX0_findStarts 94 = .ok (.getfield 28, 3) := by decide +kernel
theorem dX0_findStarts_97 : decode cX0_findStarts 97 = .ok (.iload_n 3, 1) := by decide +kernel
theorem dX0_findStarts_98 : decode cX0_findStarts 98 = .ok (.aload_n 1, 1) := by decide +kernel
theorem dX0_findStarts_99 : decode cX0_findStarts 99 = .ok (.iload_n 2, 1) := by decide +kernel
theorem dX0_findStarts_100 : decode cX0_findStarts 100 = .ok (.aload_n 0, 1) := by decide +kernel
theorem dX0_findStarts_101 : decode cX0_findStarts 101 = .ok (.getfield 25, 3) := by decide +kernel
theorem dX0_findStarts_104 : decode cX0_findStarts 104 = .ok (.iload_n 3, 1) := by decide +kernel
theorem dX0_findStarts_105 : decode cX0_findStarts 105 = .ok (.iaload, 1) := by decide +kernel
theorem dX0_findStarts_106 : decode cX0_findStarts 106 = .ok (.invokevirtual 95, 3) := by decide +kernel
theorem dX0_findStarts_109 : decode cX0_findStarts 109 = .ok (.iastore, 1) := by decide +kernel
theorem dX0_findStarts_110 : decode cX0_findStarts 110 = .ok (.iinc 3 1, 3) := by decide +kernel
theorem dX0_findStarts_113 : decode cX0_findStarts 113 = .ok (.goto (-28), 3) := by decide +kernel
theorem dX0_findStarts_116 : decode cX0_findStarts 116 = .ok (.return_, 1) := by decide +kernel
theorem dX0_addStart_0 : decode cX0_addStart 0 = .ok (.aload_n 0, 1) := by decide +kernel
theorem dX0_addStart_1 : decode cX0_addStart 1 = .ok (.getfield 31, 3) := by decide +kernel
theorem dX0_addStart_4 : decode cX0_addStart 4 = .ok (.istore_n 2, 1) := by decide +kernel
theorem dX0_addStart_5 : decode cX0_addStart 5 = .ok (.iload_n 2, 1) := by decide +kernel
theorem dX0_addStart_6 : decode cX0_addStart 6 = .ok (.ifCond .le 21, 3) := by decide +kernel
theorem dX0_addStart_9 : decode cX0_addStart 9 = .ok (.aload_n 0, 1) := by decide +kernel
theorem dX0_addStart_10 : decode cX0_addStart 10 = .ok (.getfield 25, 3) := by decide +kernel
theorem dX0_addStart_13 : decode cX0_addStart 13 = .ok (.iload_n 2, 1) := by decide +kernel
theorem dX0_addStart_14 : decode cX0_addStart 14 = .ok (.iconst 1, 1) := by decide +kernel
theorem dX0_addStart_15 : decode cX0_addStart 15 = .ok (.isub, 1) := by decide +kernel
theorem dX0_addStart_16 : decode cX0_addStart 16 = .ok (.iaload, 1) := by decide +kernel
theorem dX0_addStart_17 : decode cX0_addStart 17 = .ok (.iload_n 1, 1) := by decide +kernel
theorem dX0_addStart_18 : decode cX0_addStart 18 = .ok (.if_icmp .le 9, 3) := by decide +kernel
theorem dX0_addStart_21 : decode cX0_addStart 21 = .ok (.iinc 2 (-1), 3) := by decide +kernel
theorem dX0_addStart_24 : decode cX0_addStart 24 = .ok (.goto (-19), 3) := by decide +kernel
theorem dX0_addStart_27 : decode cX0_addStart 27 = .ok (.iload_n 2, 1) := by decide +kernel
theorem dX0_addStart_28 : decode cX0_addStart 28 = .ok (.ifCond .le 15, 3) := by decide +kernel
theorem dX0_addStart_31 : decode cX0_addStart 31 = .ok (.aload_n 0, 1) := by decide +kernel
theorem dX0_addStart_32 : decode cX0_addStart 32 = .ok (.getfield 25, 3) := by decide +kernel
theorem dX0_addStart_35 : decode cX0_addStart 35 = .ok (.iload_n 2, 1) := by decide +kernel
theorem dX0_addStart_36 : decode cX0_addStart 36 = .ok (.iconst 1, 1) := by decide +kernel
theorem dX0_addStart_37 : decode cX0_addStart 37 = .ok (.isub, 1) := by decide +kernel
theorem dX0_addStart_38 : decode cX0_addStart 38 = .ok (.iaload, 1) := by decide +kernel
theorem dX0_addStart_39 : decode cX0_addStart 39 = .ok (.iload_n 1, 1) := by decide +kernel
theorem dX0_addStart_40 : decode cX0_addStart 40 = .ok (.if_icmp .eq 12, 3) := by decide +kernel
theorem dX0_addStart_43 : decode cX0_addStart 43 = .ok (.aload_n 0, 1) := by decide +kernel
theorem dX0_addStart_44 : decode cX0_addStart 44 = .ok (.getfield 31, 3) := by decide +kernel
theorem dX0_addStart_47 : decode cX0_addStart 47 = .ok (.bipush 17, 2) := by decide +kernel
theorem dX0_addStart_49 : decode cX0_addStart 49 = .ok (.if_icmp .lt 4, 3) := by decide +kernel
theorem dX0_addStart_52 : decode cX0_addStart 52 = .ok (.return_, 1) := by decide +kernel
theorem dX0_addStart_53 : decode cX0_addStart 53 = .ok (.aload_n 0, 1) := by decide +kernel
theorem dX0_addStart_54 : decode cX0_addStart 54 = .ok (.getfield 31, 3) := by decide +kernel
theorem dX0_addStart_57 : decode cX0_addStart 57 = .ok (.istore_n 3, 1) := by decide +kernel
theorem dX0_addStart_58 : decode cX0_addStart 58 = .ok (.iload_n 3, 1) := by decide +kernel
theorem dX0_addStart_59 : decode cX0_addStart 59 = .ok (.iload_n 2, 1) := by decide +kernel
theorem dX0_addStart_60 : decode cX0_addStart 60 = .ok (.if_icmp .le 23, 3) := by decide +kernel
theorem dX0_addStart_63 : decode cX0_addStart 63 = .ok (.aload_n 0, 1) := by decide +kernel
theorem dX0_addStart_64 : decode cX0_addStart 64 = .ok (.getfield 25, 3) := by decide +kernel
theorem dX0_addStart_67 : decode cX0_addStart 67 = .ok (.iload_n 3, 1) := by decide +kernel
theorem dX0_addStart_68 : decode cX0_addStart 68 = .ok (.aload_n 0, 1) := by decide +kernel
theorem dX0_addStart_69 : decode cX0_addStart 69 = .ok (.getfield 25, 3) := by decide +kernel
theorem dX0_addStart_72 : decode cX0_addStart 72 = .ok (.iload_n 3, 1) := by decide +kernel
theorem dX0_addStart_73 : decode cX0_addStart 73 = .ok (.iconst 1, 1) := by decide +kernel
theorem dX0_addStart_74 : decode cX0_addStart 74 = .ok (.isub, 1) := by decide +kernel
theorem dX0_addStart_75 : decode cX0_addStart 75 = .ok (.iaload, 1) := by decide +kernel
theorem dX0_addStart_76 : decode cX0_addStart 76 = .ok (.iastore, 1) := by decide +kernel
theorem dX0_addStart_77 : decode cX0_addStart 77 = .ok (.iinc 3 (-1), 3) := by decide +kernel
theorem dX0_addStart_80 : decode cX0_addStart 80 = .ok (.goto (-22), 3) := by decide +kernel
theorem dX0_addStart_83 : decode cX0_addStart 83 = .ok (.aload_n 0, 1) := by decide +kernel
theorem dX0_addStart_84 : decode cX0_addStart 84 = .ok (.getfield 25, 3) := by decide +kernel
theorem dX0_addStart_87 : decode cX0_addStart 87 = .ok (.iload_n 2, 1) := by decide +kernel
theorem dX0_addStart_88 : decode cX0_addStart 88 = .ok (.iload_n 1, 1) := by decide +kernel
theorem dX0_addStart_89 : decode cX0_addStart 89 = .ok (.iastore, 1) := by decide +kernel
theorem dX0_addStart_90 : decode cX0_addStart 90 = .ok (.aload_n 0, 1) := by decide +kernel
theorem dX0_addStart_91 : decode cX0_addStart 91 = .ok (.dup, 1) := by decide +kernel
theorem dX0_addStart_92 : decode cX0_addStart 92 = .ok (.getfield 31, 3) := by decide +kernel
theorem dX0_addStart_95 : decode cX0_addStart 95 = .ok (.iconst 1, 1) := by decide +kernel
theorem dX0_addStart_96 : decode cX0_addStart 96 = .ok (.iadd, 1) := by decide +kernel
theorem dX0_addStart_97 : decode cX0_addStart 97 = .ok (.putfield 31, 3) := by decide +kernel
theorem dX0_addStart_100 : decode cX0_addStart 100 = .ok (.return_, 1) := by decide +kernel
set_option maxRecDepth 20000 in
theorem ggX1_init_X4_init : GoodIn wsX1_init wsX4_init := goodIn_r _ [20, 21, 2, 3, 8, 22, 23, 24, 25, 26, 27, 28, 29, 30, 31, 32, 33, 34, 35, 36] (by decide +kernel) (by decide +kernel)
set_option maxRecDepth 20000 in
theorem gX1_init_X4_init_n11 : GoodIn wsX1_init (wsX4_init) := ggX1_init_X4_init
theorem dX1_init_0 : decode cX1_init 0 = .ok (.aload_n 0, 1) := by decide +kernel
theorem dX1_init_1 : decode cX1_init 1 = .ok (.invokespecial 3, 3) := by decide +kernel
theorem dX1_init_4 : decode cX1_init 4 = .ok (.aload_n 0, 1) := by decide +kernel
theorem dX1_init_5 : decode cX1_init 5 = .ok (.new 9, 3) := by decide +kernel
theorem dX1_init_8 : decode cX1_init 8 = .ok (.dup, 1) := by decide +kernel
theorem dX1_init_9 : decode cX1_init 9 = .ok (.invokespecial 11, 3) := by decide +kernel
theorem dX1_init_12 : decode cX1_init 12 = .ok (.putfield 12, 3) := by decide +kernel
theorem dX1_init_15 : decode cX1_init 15 = .ok (.aload_n 0, 1) := by decide +kernel
theorem dX1_init_16 : decode cX1_init 16 = .ok (.bipush 8, 2) := by decide +kernel
theorem dX1_init_18 : decode cX1_init 18 = .ok (.newarray .int, 2) := by decide +kernel
theorem dX1_init_20 : decode cX1_init 20 = .ok (.putfield 18, 3) := by decide +kernel
theorem dX1_init_23 : decode cX1_init 23 = .ok (.aload_n 0, 1) := by decide +kernel
theorem dX1_init_24 : decode cX1_init 24 = .ok (.bipush 8, 2) := by decide +kernel
theorem dX1_init_26 : decode cX1_init 26 = .ok (.anewarray 22, 3) := by decide +kernel
theorem dX1_init_29 : decode cX1_init 29 = .ok (.putfield 24, 3) := by decide +kernel
theorem dX1_init_32 : decode cX1_init 32 = .ok (.aload_n 0, 1) := by decide +kernel
theorem dX1_init_33 : decode cX1_init 33 = .ok (.bipush 8, 2) := by decide +kernel
theorem dX1_init_35 : decode cX1_init 35 = .ok (.newarray .int, 2) := by decide +kernel
theorem dX1_init_37 : decode cX1_init 37 = .ok (.putfield 28, 3) := by decide +kernel
theorem dX1_init_40 : decode cX1_init 40 = .ok (.aload_n 0, 1) := by decide +kernel
theorem dX1_init_41 : decode cX1_init 41 = .ok (.iconst 0, 1) := by decide +kernel
theorem dX1_init_42 : decode cX1_init 42 = .ok (.putfield 31, 3) := by decide +kernel
theorem dX1_init_45 : decode cX1_init 45 = .ok (.aload_n 0, 1) := by decide +kernel
theorem dX1_init_46 : decode cX1_init 46 = .ok (.iconst 0, 1) := by decide +kernel
theorem dX1_init_47 : decode cX1_init 47 = .ok (.putfield 35, 3) := by decide +kernel
theorem dX1_init_50 : decode cX1_init 50 = .ok (.aload_n 0, 1) := by decide +kernel
theorem dX1_init_51 : decode cX1_init 51 = .ok (.iconst 0, 1) := by decide +kernel
theorem dX1_init_52 : decode cX1_init 52 = .ok (.putfield 38, 3) := by decide +kernel
theorem dX1_init_55 : decode cX1_init 55 = .ok (.aload_n 0, 1) := by decide +kernel
theorem dX1_init_56 : decode cX1_init 56 = .ok (.aload_n 1, 1) := by decide +kernel
theorem dX1_init_57 : decode cX1_init 57 = .ok (.putfield 42, 3) := by decide +kernel
theorem dX1_init_60 : decode cX1_init 60 = .ok (.aload_n 0, 1) := by decide +kernel
theorem dX1_init_61 : decode cX1_init 61 = .ok (.iload_n 2, 1) := by decide +kernel
theorem dX1_init_62 : decode cX1_init 62 = .ok (.putfield 46, 3) := by decide +kernel
theorem dX1_init_65 : decode cX1_init 65 = .ok (.aload_n 0, 1) := by decide +kernel
theorem dX1_init_66 : decode cX1_init 66 = .ok (.iload_n 3, 1) := by decide +kernel
theorem dX1_init_67 : decode cX1_init 67 = .ok (.putfield 49, 3) := by decide +kernel
theorem dX1_init_70 : decode cX1_init 70 = .ok (.return_, 1) := by decide +kernel
theorem dX1_hasPlace_0 : decode cX1_hasPlace 0 = .ok (.iload_n 1, 1) := by decide +kernel
theorem dX1_hasPlace_1 : decode cX1_hasPlace 1 = .ok (.ifCond .lt 15, 3) := by decide +kernel
theorem dX1_hasPlace_4 : decode cX1_hasPlace 4 = .ok (.iload_n 1, 1) := by decide +kernel
theorem dX1_hasPlace_5 : decode cX1_hasPlace 5 = .ok (.aload_n 0, 1) := by decide +kernel
theorem dX1_hasPlace_6 : decode cX1_hasPlace 6 = .ok (.getfield 49, 3) := by decide +kernel
theorem dX1_hasPlace_9 : decode cX1_hasPlace 9 = .ok (.if_icmp .ge 7, 3) := by decide +kernel
theorem dX1_hasPlace_12 : decode cX1_hasPlace 12 = .ok (.iconst 1, 1) := by decide +kernel
theorem dX1_hasPlace_13 : decode cX1_hasPlace 13 = .ok (.goto 4, 3) := by decide +kernel
theorem dX1_hasPlace_16 : decode cX1_hasPlace 16 = .ok (.iconst 0, 1) := by decide +kernel
theorem dX1_hasPlace_17 : decode cX1_hasPlace 17 = .ok (.ireturn, 1) := by decide +kernel
theorem dX1_laidAt_0 : decode cX1_laidAt 0 = .ok (.iload_n 1, 1) := by decide +kernel
theorem dX1_laidAt_1 : decode cX1_laidAt 1 = .ok (.ifCond .lt 20, 3) := by decide +kernel
theorem dX1_laidAt_4 : decode cX1_laidAt 4 = .ok (.iload_n 1, 1) := by decide +kernel
theorem dX1_laidAt_5 : decode cX1_laidAt 5 = .ok (.aload_n 0, 1) := by decide +kernel
theorem dX1_laidAt_6 : decode cX1_laidAt 6 = .ok (.getfield 31, 3) := by decide +kernel
theorem dX1_laidAt_9 : decode cX1_laidAt 9 = .ok (.if_icmp .ge 12, 3) := by decide +kernel
theorem dX1_laidAt_12 : decode cX1_laidAt 12 = .ok (.aload_n 0, 1) := by decide +kernel
theorem dX1_laidAt_13 : decode cX1_laidAt 13 = .ok (.getfield 24, 3) := by decide +kernel
theorem dX1_laidAt_16 : decode cX1_laidAt 16 = .ok (.iload_n 1, 1) := by decide +kernel
theorem dX1_laidAt_17 : decode cX1_laidAt 17 = .ok (.aaload, 1) := by decide +kernel
theorem dX1_laidAt_18 : decode cX1_laidAt 18 = .ok (.goto 4, 3) := by decide +kernel
theorem dX1_laidAt_21 : decode cX1_laidAt 21 = .ok (.aconst_null, 1) := by decide +kernel
theorem dX1_laidAt_22 : decode cX1_laidAt 22 = .ok (.areturn, 1) := by decide +kernel
set_option maxRecDepth 20000 in
theorem ggX1_numberAt_X1_laidAt : GoodIn wsX1_numberAt wsX1_laidAt := goodIn_r _ [6, 7, 8, 18, 19, 20, 21, 22, 23, 24, 25, 26, 27] (by decide +kernel) (by decide +kernel)
set_option maxRecDepth 20000 in
theorem gX1_numberAt_X1_laidAt : GoodIn wsX1_numberAt (wsV RX1 52 RX1 yX1_laidAt wsX1_laidAt) := goodIn_app (goodIn_of _ (by decide +kernel)) ggX1_numberAt_X1_laidAt
theorem dX1_numberAt_0 : decode cX1_numberAt 0 = .ok (.aload_n 0, 1) := by decide +kernel
theorem dX1_numberAt_1 : decode cX1_numberAt 1 = .ok (.iload_n 1, 1) := by decide +kernel
theorem dX1_numberAt_2 : decode cX1_numberAt 2 = .ok (.invokevirtual 52, 3) := by decide +kernel
theorem dX1_numberAt_5 : decode cX1_numberAt 5 = .ok (.astore_n 2, 1) := by decide +kernel
theorem dX1_numberAt_6 : decode cX1_numberAt 6 = .ok (.aload_n 2, 1) := by decide +kernel
theorem dX1_numberAt_7 : decode cX1_numberAt 7 = .ok (.ifnonnull 7, 3) := by decide +kernel
theorem dX1_numberAt_10 : decode cX1_numberAt 10 = .ok (.iconst (-1), 1) := by decide +kernel
theorem dX1_numberAt_11 : decode cX1_numberAt 11 = .ok (.goto 7, 3) := by decide +kernel
theorem dX1_numberAt_14 : decode cX1_numberAt 14 = .ok (.aload_n 2, 1) := by decide +kernel
theorem dX1_numberAt_15 : decode cX1_numberAt 15 = .ok (.getfield 56, 3) := by decide +kernel
theorem dX1_numberAt_18 : decode cX1_numberAt 18 = .ok (.ireturn, 1) := by decide +kernel
theorem dX1_indexOf_0 : decode cX1_indexOf 0 = .ok (.iconst 0, 1) := by decide +kernel
theorem dX1_indexOf_1 : decode cX1_indexOf 1 = .ok (.istore_n 2, 1) := by decide +kernel
theorem dX1_indexOf_2 : decode cX1_indexOf 2 = .ok (.iload_n 2, 1) := by decide +kernel
theorem dX1_indexOf_3 : decode cX1_indexOf 3 = .ok (.aload_n 0, 1) := by decide +kernel
theorem dX1_indexOf_4 : decode cX1_indexOf 4 = .ok (.getfield 31, 3) := by decide +kernel
theorem dX1_indexOf_7 : decode cX1_indexOf 7 = .ok (.if_icmp .ge 27, 3) := by decide +kernel
theorem dX1_indexOf_10 : decode cX1_indexOf 10 = .ok (.aload_n 0, 1) := by decide +kernel
theorem dX1_indexOf_11 : decode cX1_indexOf 11 = .ok (.getfield 24, 3) := by decide +kernel
theorem dX1_indexOf_14 : decode cX1_indexOf 14 = .ok (.iload_n 2, 1) := by decide +kernel
theorem dX1_indexOf_15 : decode cX1_indexOf 15 = .ok (.aaload, 1) := by decide +kernel
theorem dX1_indexOf_16 : decode cX1_indexOf 16 = .ok (.getfield 56, 3) := by decide +kernel
theorem dX1_indexOf_19 : decode cX1_indexOf 19 = .ok (.aload_n 1, 1) := by decide +kernel
theorem dX1_indexOf_20 : decode cX1_indexOf 20 = .ok (.getfield 56, 3) := by decide +kernel
theorem dX1_indexOf_23 : decode cX1_indexOf 23 = .ok (.if_icmp .ne 5, 3) := by decide +kernel
theorem dX1_indexOf_26 : decode cX1_indexOf 26 = .ok (.iload_n 2, 1) := by decide +kernel
theorem dX1_indexOf_27 : decode cX1_indexOf 27 = .ok (.ireturn, 1) := by decide +kernel
theorem dX1_indexOf_28 : decode cX1_indexOf 28 = .ok (.iinc 2 1, 3) := by decide +kernel
theorem dX1_indexOf_31 : decode cX1_indexOf 31 = .ok (.goto (-29), 3) := by decide +kernel
theorem dX1_indexOf_34 : decode cX1_indexOf 34 = .ok (.iconst (-1), 1) := by decide +kernel
theorem dX1_indexOf_35 : decode cX1_indexOf 35 = .ok (.ireturn, 1) := by decide +kernel
set_option maxRecDepth 20000 in
theorem ggX1_hasLaidSame_X2_isSameAs : GoodIn wsX1_hasLaidSame wsX2_isSameAs := goodIn_r _ [8, 9, 10, 11, 12, 13, 7, 14, 15, 16, 17, 28, 29, 30, 31, 32, 33, 34, 35, 36, 18, 19, 20, 21, 22, 23, 24, 25, 26, 27] (by decide +kernel) (by decide +kernel)
set_option maxRecDepth 20000 in
theorem gX1_hasLaidSame_X2_isSameAs : GoodIn wsX1_hasLaidSame (wsV RX1 60 RX2 yX2_isSameAs wsX2_isSameAs) := goodIn_app (goodIn_of _ (by decide +kernel)) ggX1_hasLaidSame_X2_isSameAs
theorem dX1_hasLaidSame_0 : decode cX1_hasLaidSame 0 = .ok (.iconst 0, 1) := by decide +kernel
theorem dX1_hasLaidSame_1 : decode cX1_hasLaidSame 1 = .ok (.istore_n 2, 1) := by decide +kernel
theorem dX1_hasLaidSame_2 : decode cX1_hasLaidSame 2 = .ok (.iload_n 2, 1) := by decide +kernel
theorem dX1_hasLaidSame_3 : decode cX1_hasLaidSame 3 = .ok (.aload_n 0, 1) := by decide +kernel
theorem dX1_hasLaidSame_4 : decode cX1_hasLaidSame 4 = .ok (.getfield 31, 3) := by decide +kernel
theorem dX1_hasLaidSame_7 : decode cX1_hasLaidSame 7 = .ok (.if_icmp .ge 40, 3) := by decide +kernel
theorem dX1_hasLaidSame_10 : decode cX1_hasLaidSame 10 = .ok (.aload_n 0, 1) := by decide +kernel
theorem dX1_hasLaidSame_11 : decode cX1_hasLaidSame 11 = .ok (.getfield 24, 3) := by decide +kernel
theorem dX1_hasLaidSame_14 : decode cX1_hasLaidSame 14 = .ok (.iload_n 2, 1) := by decide +kernel
theorem dX1_hasLaidSame_15 : decode cX1_hasLaidSame 15 = .ok (.aaload, 1) := by decide +kernel
theorem dX1_hasLaidSame_16 : decode cX1_hasLaidSame 16 = .ok (.getfield 57, 3) := by decide +kernel
theorem dX1_hasLaidSame_19 : decode cX1_hasLaidSame 19 = .ok (.aload_n 1, 1) := by decide +kernel
theorem dX1_hasLaidSame_20 : decode cX1_hasLaidSame 20 = .ok (.getfield 57, 3) := by decide +kernel
theorem dX1_hasLaidSame_23 : decode cX1_hasLaidSame 23 = .ok (.if_icmp .ne 18, 3) := by decide +kernel
theorem dX1_hasLaidSame_26 : decode cX1_hasLaidSame 26 = .ok (.aload_n 0, 1) := by decide +kernel
theorem dX1_hasLaidSame_27 : decode cX1_hasLaidSame 27 = .ok (.getfield 24, 3) := by decide +kernel
theorem dX1_hasLaidSame_30 : decode cX1_hasLaidSame 30 = .ok (.iload_n 2, 1) := by decide +kernel
theorem dX1_hasLaidSame_31 : decode cX1_hasLaidSame 31 = .ok (.aaload, 1) := by decide +kernel
theorem dX1_hasLaidSame_32 : decode cX1_hasLaidSame 32 = .ok (.aload_n 1, 1) := by decide +kernel
theorem dX1_hasLaidSame_33 : decode cX1_hasLaidSame 33 = .ok (.invokevirtual 60, 3) := by decide +kernel
theorem dX1_hasLaidSame_36 : decode cX1_hasLaidSame 36 = .ok (.ifCond .eq 5, 3) := by decide +kernel
theorem dX1_hasLaidSame_39 : decode cX1_hasLaidSame 39 = .ok (.iconst 1, 1) := by decide +kernel
theorem dX1_hasLaidSame_40 : decode cX1_hasLaidSame 40 = .ok (.ireturn, 1) := by decide +kernel
theorem dX1_hasLaidSame_41 : decode cX1_hasLaidSame 41 = .ok (.iinc 2 1, 3) := by decide +kernel
theorem dX1_hasLaidSame_44 : decode cX1_hasLaidSame 44 = .ok (.goto (-42), 3) := by decide +kernel
theorem dX1_hasLaidSame_47 : decode cX1_hasLaidSame 47 = .ok (.iconst 0, 1) := by decide +kernel
theorem dX1_hasLaidSame_48 : decode cX1_hasLaidSame 48 = .ok (.ireturn, 1) := by decide +kernel
set_option maxRecDepth 20000 in
theorem ggX1_putLaid_X1_compareLaid : GoodIn wsX1_putLaid wsX1_compareLaid := goodIn_r _ [8, 9, 1, 10, 2, 11, 12, 13, 14, 15, 16, 17, 18, 19, 20, 21, 22, 23, 24, 25, 26, 27, 28, 29, 30, 31, 32, 33, 34, 35, 36, 37, 38, 39, 40, 7, 41, 42, 43, 44, 45, 46, 47, 48, 49, 50, 51, 52, 53, 54, 55, 56, 57, 58, 59, 60, 61, 62, 63, 64, 65, 66, 67, 68, 69, 70, 71, 72, 73, 74, 75, 76, 77, 78, 79, 80, 81, 82, 83, 84, 85, 86] (by decide +kernel) (by decide +kernel)
set_option maxRecDepth 20000 in
theorem gX1_putLaid_X1_compareLaid : GoodIn wsX1_putLaid (wsV RX1 64 RX1 yX1_compareLaid wsX1_compareLaid) := goodIn_app (goodIn_of _ (by decide +kernel)) ggX1_putLaid_X1_compareLaid
theorem dX1_putLaid_0 : decode cX1_putLaid 0 = .ok (.aload_n 0, 1) := by decide +kernel
theorem dX1_putLaid_1 : decode cX1_putLaid 1 = .ok (.getfield 31, 3) := by decide +kernel
theorem dX1_putLaid_4 : decode cX1_putLaid 4 = .ok (.bipush 8, 2) := by decide +kernel
theorem dX1_putLaid_6 : decode cX1_putLaid 6 = .ok (.if_icmp .lt 5, 3) := by decide +kernel
theorem dX1_putLaid_9 : decode cX1_putLaid 9 = .ok (.iconst 0, 1) := by decide +kernel
theorem dX1_putLaid_10 : decode cX1_putLaid 10 = .ok (.ireturn, 1) := by decide +kernel
theorem dX1_putLaid_11 : decode cX1_putLaid 11 = .ok (.aload_n 0, 1) := by decide +kernel
theorem dX1_putLaid_12 : decode cX1_putLaid 12 = .ok (.getfield 31, 3) := by decide +kernel
theorem dX1_putLaid_15 : decode cX1_putLaid 15 = .ok (.istore_n 2, 1) := by decide +kernel
theorem dX1_putLaid_16 : decode cX1_putLaid 16 = .ok (.iload_n 2, 1) := by decide +kernel
theorem dX1_putLaid_17 : decode cX1_putLaid 17 = .ok (.ifCond .le 41, 3) := by decide +kernel
theorem dX1_putLaid_20 : decode cX1_putLaid 20 = .ok (.aload_n 0, 1) := by decide +kernel
theorem dX1_putLaid_21 : decode cX1_putLaid 21 = .ok (.getfield 24, 3) := by decide +kernel
theorem dX1_putLaid_24 : decode cX1_putLaid 24 = .ok (.iload_n 2, 1) := by decide +kernel
theorem dX1_putLaid_25 : decode cX1_putLaid 25 = .ok (.iconst 1, 1) := by decide +kernel
theorem dX1_putLaid_26 : decode cX1_putLaid 26 = .ok (.isub, 1) := by decide +kernel
theorem dX1_putLaid_27 : decode cX1_putLaid 27 = .ok (.aaload, 1) := by decide +kernel
theorem dX1_putLaid_28 : decode cX1_putLaid 28 = .ok (.getfield 56, 3) := by decide +kernel
theorem dX1_putLaid_31 : decode cX1_putLaid 31 = .ok (.aload_n 1, 1) := by decide +kernel
theorem dX1_putLaid_32 : decode cX1_putLaid 32 = .ok (.getfield 56, 3) := by decide +kernel
theorem dX1_putLaid_35 : decode cX1_putLaid 35 = .ok (.if_icmp .le 23, 3) := by decide +kernel
theorem dX1_putLaid_38 : decode cX1_putLaid 38 = .ok (.aload_n 0, 1) := by decide +kernel
theorem dX1_putLaid_39 : decode cX1_putLaid 39 = .ok (.getfield 24, 3) := by decide +kernel
theorem dX1_putLaid_42 : decode cX1_putLaid 42 = .ok (.iload_n 2, 1) := by decide +kernel
theorem dX1_putLaid_43 : decode cX1_putLaid 43 = .ok (.aload_n 0, 1) := by decide +kernel
theorem dX1_putLaid_44 : decode cX1_putLaid 44 = .ok (.getfield 24, 3) := by decide +kernel
theorem dX1_putLaid_47 : decode cX1_putLaid 47 = .ok (.iload_n 2, 1) := by decide +kernel
theorem dX1_putLaid_48 : decode cX1_putLaid 48 = .ok (.iconst 1, 1) := by decide +kernel
theorem dX1_putLaid_49 : decode cX1_putLaid 49 = .ok (.isub, 1) := by decide +kernel
theorem dX1_putLaid_50 : decode cX1_putLaid 50 = .ok (.aaload, 1) := by decide +kernel
theorem dX1_putLaid_51 : decode cX1_putLaid 51 = .ok (.aastore, 1) := by decide +kernel
theorem dX1_putLaid_52 : decode cX1_putLaid 52 = .ok (.iinc 2 (-1), 3) := by decide +kernel
theorem dX1_putLaid_55 : decode cX1_putLaid 55 = .ok (.goto (-39), 3) := by decide +kernel
theorem dX1_putLaid_58 : decode cX1_putLaid 58 = .ok (.aload_n 0, 1) := by decide +kernel
theorem dX1_putLaid_59 : decode cX1_putLaid 59 = .ok (.getfield 24, 3) := by decide +kernel
theorem dX1_putLaid_62 : decode cX1_putLaid 62 = .ok (.iload_n 2, 1) := by decide +kernel
theorem dX1_putLaid_63 : decode cX1_putLaid 63 = .ok (.aload_n 1, 1) := by decide +kernel
theorem dX1_putLaid_64 : decode cX1_putLaid 64 = .ok (.aastore, 1) := by decide +kernel
theorem dX1_putLaid_65 : decode cX1_putLaid 65 = .ok (.aload_n 0, 1) := by decide +kernel
theorem dX1_putLaid_66 : decode cX1_putLaid 66 = .ok (.dup, 1) := by decide +kernel
theorem dX1_putLaid_67 : decode cX1_putLaid 67 = .ok (.getfield 31, 3) := by decide +kernel
theorem dX1_putLaid_70 : decode cX1_putLaid 70 = .ok (.iconst 1, 1) := by decide +kernel
theorem dX1_putLaid_71 : decode cX1_putLaid 71 = .ok (.iadd, 1) := by decide +kernel
theorem dX1_putLaid_72 : decode cX1_putLaid 72 = .ok (.putfield 31, 3) := by decide +kernel
theorem dX1_putLaid_75 : decode cX1_putLaid 75 = .ok (.aload_n 0, 1) := by decide +kernel
theorem dX1_putLaid_76 : decode cX1_putLaid 76 = .ok (.invokevirtual 64, 3) := by decide +kernel
theorem dX1_putLaid_79 : decode cX1_putLaid 79 = .ok (.iconst 1, 1) := by decide +kernel
theorem dX1_putLaid_80 : decode cX1_putLaid 80 = .ok (.ireturn, 1) := by decide +kernel
set_option maxRecDepth 20000 in
theorem ggX1_dropLaid_X1_compareLaid : GoodIn wsX1_dropLaid wsX1_compareLaid := goodIn_r _ [8, 9, 1, 10, 2, 11, 12, 13, 14, 15, 16, 17, 18, 19, 20, 21, 22, 23, 24, 25, 26, 27, 28, 29, 30, 31, 32, 33, 34, 35, 36, 37, 38, 39, 40, 7, 41, 42, 43, 44, 45, 46, 47, 48, 49, 50, 51, 52, 53, 54, 55, 56, 57, 58, 59, 60, 61, 62, 63, 64, 65, 66, 67, 68, 69, 70, 71, 72, 73, 74, 75, 76, 77, 78, 79, 80, 81, 82, 83, 84, 85, 86] (by decide +kernel) (by decide +kernel)
set_option maxRecDepth 20000 in
theorem gX1_dropLaid_X1_compareLaid : GoodIn wsX1_dropLaid (wsV RX1 64 RX1 yX1_compareLaid wsX1_compareLaid) := goodIn_app (goodIn_of _ (by decide +kernel)) ggX1_dropLaid_X1_compareLaid
theorem dX1_dropLaid_0 : decode cX1_dropLaid 0 = .ok (.iconst 0, 1) := by decide +kernel
theorem dX1_dropLaid_1 : decode cX1_dropLaid 1 = .ok (.istore_n 2, 1) := by decide +kernel
theorem dX1_dropLaid_2 : decode cX1_dropLaid 2 = .ok (.iconst 0, 1) := by decide +kernel
theorem dX1_dropLaid_3 : decode cX1_dropLaid 3 = .ok (.istore_n 3, 1) := by decide +kernel
theorem dX1_dropLaid_4 : decode cX1_dropLaid 4 = .ok (.iload_n 3, 1) := by decide +kernel
theorem dX1_dropLaid_5 : decode cX1_dropLaid 5 = .ok (.aload_n 0, 1) := by decide +kernel
theorem dX1_dropLaid_6 : decode cX1_dropLaid 6 = .ok (.getfield 31, 3) := by decide +kernel
theorem dX1_dropLaid_9 : decode cX1_dropLaid 9 = .ok (.if_icmp .ge 40, 3) := by decide +kernel
theorem dX1_dropLaid_12 : decode cX1_dropLaid 12 = .ok (.aload_n 0, 1) := by decide +kernel
theorem dX1_dropLaid_13 : decode cX1_dropLaid 13 = .ok (.getfield 24, 3) := by decide +kernel
theorem dX1_dropLaid_16 : decode cX1_dropLaid 16 = .ok (.iload_n 3, 1) := by decide +kernel
theorem dX1_dropLaid_17 : decode cX1_dropLaid 17 = .ok (.aaload, 1) := by decide +kernel
theorem dX1_dropLaid_18 : decode cX1_dropLaid 18 = .ok (.getfield 56, 3) := by decide +kernel
theorem dX1_dropLaid_21 : decode cX1_dropLaid 21 = .ok (.aload_n 1, 1) := by decide +kernel
theorem dX1_dropLaid_22 : decode cX1_dropLaid 22 = .ok (.getfield 56, 3) := by decide +kernel
theorem dX1_dropLaid_25 : decode cX1_dropLaid 25 = .ok (.if_icmp .eq 18, 3) := by decide +kernel
theorem dX1_dropLaid_28 : decode cX1_dropLaid 28 = .ok (.aload_n 0, 1) := by decide +kernel
theorem dX1_dropLaid_29 : decode cX1_dropLaid 29 = .ok (.getfield 24, 3) := by decide +kernel
theorem dX1_dropLaid_32 : decode cX1_dropLaid 32 = .ok (.iload_n 2, 1) := by decide +kernel
theorem dX1_dropLaid_33 : decode cX1_dropLaid 33 = .ok (.aload_n 0, 1) := by decide +kernel
theorem dX1_dropLaid_34 : decode cX1_dropLaid 34 = .ok (.getfield 24, 3) := by decide +kernel
theorem dX1_dropLaid_37 : decode cX1_dropLaid 37 = .ok (.iload_n 3, 1) := by decide +kernel
theorem dX1_dropLaid_38 : decode cX1_dropLaid 38 = .ok (.aaload, 1) := by decide +kernel
theorem dX1_dropLaid_39 : decode cX1_dropLaid 39 = .ok (.aastore, 1) := by decide +kernel
theorem dX1_dropLaid_40 : decode cX1_dropLaid 40 = .ok (.iinc 2 1, 3) := by decide +kernel
theorem dX1_dropLaid_43 : decode cX1_dropLaid 43 = .ok (.iinc 3 1, 3) := by decide +kernel
theorem dX1_dropLaid_46 : decode cX1_dropLaid 46 = .ok (.goto (-42), 3) := by decide +kernel
theorem dX1_dropLaid_49 : decode cX1_dropLaid 49 = .ok (.aload_n 0, 1) := by decide +kernel
theorem dX1_dropLaid_50 : decode cX1_dropLaid 50 = .ok (.iload_n 2, 1) := by decide +kernel
theorem dX1_dropLaid_51 : decode cX1_dropLaid 51 = .ok (.putfield 31, 3) := by decide +kernel
theorem dX1_dropLaid_54 : decode cX1_dropLaid 54 = .ok (.aload_n 0, 1) := by decide +kernel
theorem dX1_dropLaid_55 : decode cX1_dropLaid 55 = .ok (.invokevirtual 64, 3) := by decide +kernel
theorem dX1_dropLaid_58 : decode cX1_dropLaid 58 = .ok (.return_, 1) := by decide +kernel
set_option maxRecDepth 20000 in
theorem ggX1_compareLaid_X2_isMoreSpecific : GoodIn wsX1_compareLaid wsX2_isMoreSpecific := goodIn_r _ [11, 12, 13, 14, 15, 16, 10, 17, 18, 19, 20, 21, 22, 23, 24, 25, 26, 27, 28, 29, 30, 31, 61, 62, 63, 64, 65, 66, 67, 68, 69, 51, 52, 53, 54, 55, 56, 57, 58, 59, 60, 70, 71, 72, 73, 74] (by decide +kernel) (by decide +kernel)
set_option maxRecDepth 20000 in
theorem gX1_compareLaid_X2_isMoreSpecific : GoodIn wsX1_compareLaid (wsV RX1 67 RX2 yX2_isMoreSpecific wsX2_isMoreSpecific) := goodIn_app (goodIn_of _ (by decide +kernel)) ggX1_compareLaid_X2_isMoreSpecific
set_option maxRecDepth 20000 in
theorem ggX1_compareLaid_X1_putInOrder : GoodIn wsX1_compareLaid wsX1_putInOrder := goodIn_r _ [36, 2, 37, 38, 39, 40, 35, 41, 3, 42, 43, 44, 51, 52, 53, 54, 55, 56, 57, 58, 59, 60] (by decide +kernel) (by decide +kernel)
set_option maxRecDepth 20000 in
theorem gX1_compareLaid_X1_putInOrder : GoodIn wsX1_compareLaid (wsV RX1 70 RX1 yX1_putInOrder wsX1_putInOrder) := goodIn_app (goodIn_of _ (by decide +kernel)) ggX1_compareLaid_X1_putInOrder
set_option maxRecDepth 20000 in
theorem ggX1_compareLaid_X4_forget : GoodIn wsX1_compareLaid wsX4_forget := goodIn_r _ [49, 50, 75, 76, 77, 78, 79, 80, 81] (by decide +kernel) (by decide +kernel)
set_option maxRecDepth 20000 in
theorem gX1_compareLaid_X4_forget : GoodIn wsX1_compareLaid (wsV RX1 73 RX4 yX4_forget wsX4_forget) := goodIn_app (goodIn_of _ (by decide +kernel)) ggX1_compareLaid_X4_forget
theorem dX1_compareLaid_0 : decode cX1_compareLaid 0 = .ok (.aload_n 0, 1) := by decide +kernel
theorem dX1_compareLaid_1 : decode cX1_compareLaid 1 = .ok (.iconst 0, 1) := by decide +kernel
theorem dX1_compareLaid_2 : decode cX1_compareLaid 2 = .ok (.putfield 35, 3) := by decide +kernel
theorem dX1_compareLaid_5 : decode cX1_compareLaid 5 = .ok (.iconst 0, 1) := by decide +kernel
theorem dX1_compareLaid_6 : decode cX1_compareLaid 6 = .ok (.istore_n 1, 1) := by decide +kernel
theorem dX1_compareLaid_7 : decode cX1_compareLaid 7 = .ok (.iload_n 1, 1) := by decide +kernel
theorem dX1_compareLaid_8 : decode cX1_compareLaid 8 = .ok (.aload_n 0, 1) := by decide +kernel
theorem dX1_compareLaid_9 : decode cX1_compareLaid 9 = .ok (.getfield 31, 3) := by decide +kernel
theorem dX1_compareLaid_12 : decode cX1_compareLaid 12 = .ok (.if_icmp .ge 86, 3) := by decide +kernel
theorem dX1_compareLaid_15 : decode cX1_compareLaid 15 = .ok (.aload_n 0, 1) := by decide +kernel
theorem dX1_compareLaid_16 : decode cX1_compareLaid 16 = .ok (.getfield 28, 3) := by decide +kernel
theorem dX1_compareLaid_19 : decode cX1_compareLaid 19 = .ok (.iload_n 1, 1) := by decide +kernel
theorem dX1_compareLaid_20 : decode cX1_compareLaid 20 = .ok (.iconst 0, 1) := by decide +kernel
theorem dX1_compareLaid_21 : decode cX1_compareLaid 21 = .ok (.iastore, 1) := by decide +kernel
theorem dX1_compareLaid_22 : decode cX1_compareLaid 22 = .ok (.aload_n 0, 1) := by decide +kernel
theorem dX1_compareLaid_23 : decode cX1_compareLaid 23 = .ok (.getfield 24, 3) := by decide +kernel
theorem dX1_compareLaid_26 : decode cX1_compareLaid 26 = .ok (.iload_n 1, 1) := by decide +kernel
theorem dX1_compareLaid_27 : decode cX1_compareLaid 27 = .ok (.aaload, 1) := by decide +kernel
theorem dX1_compareLaid_28 : decode cX1_compareLaid 28 = .ok (.getfield 57, 3) := by decide +kernel
theorem dX1_compareLaid_31 : decode cX1_compareLaid 31 = .ok (.ifCond .ne 15, 3) := by decide +kernel
theorem dX1_compareLaid_34 : decode cX1_compareLaid 34 = .ok (.aload_n 0, 1) := by decide +kernel
theorem dX1_compareLaid_35 : decode cX1_compareLaid 35 = .ok (.dup, 1) := by decide +kernel
theorem dX1_compareLaid_36 : decode cX1_compareLaid 36 = .ok (.getfield 35, 3) := by decide +kernel
theorem dX1_compareLaid_39 : decode cX1_compareLaid 39 = .ok (.iconst 1, 1) := by decide +kernel
theorem dX1_compareLaid_40 : decode cX1_compareLaid 40 = .ok (.iload_n 1, 1) := by decide +kernel
theorem dX1_compareLaid_41 : decode cX1_compareLaid 41 = .ok (.ishl, 1) := by decide +kernel
theorem dX1_compareLaid_42 : decode cX1_compareLaid 42 = .ok (.ior, 1) := by decide +kernel
theorem dX1_compareLaid_43 : decode cX1_compareLaid 43 = .ok (.putfield 35, 3) := by decide +kernel
theorem dX1_compareLaid_46 : decode cX1_compareLaid 46 = .ok (.iconst 0, 1) := by decide +kernel
theorem dX1_compareLaid_47 : decode cX1_compareLaid 47 = .ok (.istore_n 2, 1) := by decide +kernel
theorem dX1_compareLaid_48 : decode cX1_compareLaid 48 = .ok (.iload_n 2, 1) := by decide +kernel
theorem dX1_compareLaid_49 : decode cX1_compareLaid 49 = .ok (.aload_n 0, 1) := by decide +kernel
theorem dX1_compareLaid_50 : decode cX1_compareLaid 50 = .ok (.getfield 31, 3) := by decide +kernel
theorem dX1_compareLaid_53 : decode cX1_compareLaid 53 = .ok (.if_icmp .ge 39, 3) := by decide +kernel
theorem dX1_compareLaid_56 : decode cX1_compareLaid 56 = .ok (.aload_n 0, 1) := by decide +kernel
theorem dX1_compareLaid_57 : decode cX1_compareLaid 57 = .ok (.getfield 24, 3) := by decide +kernel
theorem dX1_compareLaid_60 : decode cX1_compareLaid 60 = .ok (.iload_n 1, 1) := by decide +kernel
theorem dX1_compareLaid_61 : decode cX1_compareLaid 61 = .ok (.aaload, 1) := by decide +kernel
theorem dX1_compareLaid_62 : decode cX1_compareLaid 62 = .ok (.aload_n 0, 1) := by decide +kernel
theorem dX1_compareLaid_63 : decode cX1_compareLaid 63 = .ok (.getfield 24, 3) := by decide +kernel
theorem dX1_compareLaid_66 : decode cX1_compareLaid 66 = .ok (.iload_n 2, 1) := by decide +kernel
theorem dX1_compareLaid_67 : decode cX1_compareLaid 67 = .ok (.aaload, 1) := by decide +kernel
theorem dX1_compareLaid_68 : decode cX1_compareLaid 68 = .ok (.invokevirtual 67, 3) := by decide +kernel
theorem dX1_compareLaid_71 : decode cX1_compareLaid 71 = .ok (.ifCond .eq 15, 3) := by decide +kernel
theorem dX1_compareLaid_74 : decode cX1_compareLaid 74 = .ok (.aload_n 0, 1) := by decide +kernel
theorem dX1_compareLaid_75 : decode cX1_compareLaid 75 = .ok (.getfield 28, 3) := by decide +kernel
theorem dX1_compareLaid_78 : decode cX1_compareLaid 78 = .ok (.iload_n 1, 1) := by decide +kernel
theorem dX1_compareLaid_79 : decode cX1_compareLaid 79 = .ok (.dup2, 1) := by decide +kernel
theorem dX1_compareLaid_80 : decode cX1_compareLaid 80 = .ok (.iaload, 1) := by decide +kernel
theorem dX1_compareLaid_81 : decode cX1_compareLaid 81 = .ok (.iconst 1, 1) := by decide +kernel
theorem dX1_compareLaid_82 : decode cX1_compareLaid 82 = .ok (.iload_n 2, 1) := by decide +kernel
theorem dX1_compareLaid_83 : decode cX1_compareLaid 83 = .ok (.ishl, 1) := by decide +kernel
theorem dX1_compareLaid_84 : decode cX1_compareLaid 84 = .ok (.ior, 1) := by decide +kernel
theorem dX1_compareLaid_85 : decode cX1_compareLaid 85 = .ok (.iastore, 1) := by decide +kernel
theorem dX1_compareLaid_86 : decode cX1_compareLaid 86 = .ok (.iinc 2 1, 3) := by decide +kernel
theorem dX1_compareLaid_89 : decode cX1_compareLaid 89 = .ok (.goto (-41), 3) := by decide +kernel
theorem dX1_compareLaid_92 : decode cX1_compareLaid 92 = .ok (.iinc 1 1, 3) := by decide +kernel
theorem dX1_compareLaid_95 : decode cX1_compareLaid 95 = .ok (.goto (-88), 3) := by decide +kernel
theorem dX1_compareLaid_98 : decode cX1_compareLaid 98 = .ok (.aload_n 0, 1) := by decide +kernel
theorem dX1_compareLaid_99 : decode cX1_compareLaid 99 = .ok (.invokevirtual 70, 3) := by decide +kernel
theorem dX1_compareLaid_102 : decode cX1_compareLaid 102 = .ok (.aload_n 0, 1) := by decide +kernel
theorem dX1_compareLaid_103 : decode cX1_compareLaid 103 = .ok (.getfield 12, 3) := by decide +kernel
theorem dX1_compareLaid_106 : decode cX1_compareLaid 106 = .ok (.invokevirtual 73, 3) := by decide +kernel
theorem dX1_compareLaid_109 : decode cX1_compareLaid 109 = .ok (.return_, 1) := by decide +kernel
set_option maxRecDepth 20000 in
theorem ggX1_putInOrder_X1_beatenByAny : GoodIn wsX1_putInOrder wsX1_beatenByAny := goodIn_r _ [7, 1, 8, 12, 13, 14, 15, 16, 17, 18, 19, 20, 21] (by decide +kernel) (by decide +kernel)
set_option maxRecDepth 20000 in
theorem gX1_putInOrder_X1_beatenByAny : GoodIn wsX1_putInOrder (wsV RX1 76 RX1 yX1_beatenByAny wsX1_beatenByAny) := goodIn_app (goodIn_of _ (by decide +kernel)) ggX1_putInOrder_X1_beatenByAny
set_option maxRecDepth 20000 in
theorem ggX1_putInOrder_X9_memberAt : GoodIn wsX1_putInOrder wsX9_memberAt := goodIn_r _ [11] (by decide +kernel) (by decide +kernel)
set_option maxRecDepth 20000 in
theorem gX1_putInOrder_X9_memberAt_n80 : GoodIn wsX1_putInOrder (wsX9_memberAt) := ggX1_putInOrder_X9_memberAt
theorem dX1_putInOrder_0 : decode cX1_putInOrder 0 = .ok (.iconst 1, 1) := by decide +kernel
theorem dX1_putInOrder_1 : decode cX1_putInOrder 1 = .ok (.aload_n 0, 1) := by decide +kernel
theorem dX1_putInOrder_2 : decode cX1_putInOrder 2 = .ok (.getfield 31, 3) := by decide +kernel
theorem dX1_putInOrder_5 : decode cX1_putInOrder 5 = .ok (.ishl, 1) := by decide +kernel
theorem dX1_putInOrder_6 : decode cX1_putInOrder 6 = .ok (.iconst 1, 1) := by decide +kernel
theorem dX1_putInOrder_7 : decode cX1_putInOrder 7 = .ok (.isub, 1) := by decide +kernel
theorem dX1_putInOrder_8 : decode cX1_putInOrder 8 = .ok (.istore_n 1, 1) := by decide +kernel
theorem dX1_putInOrder_9 : decode cX1_putInOrder 9 = .ok (.iconst 0, 1) := by decide +kernel
theorem dX1_putInOrder_10 : decode cX1_putInOrder 10 = .ok (.istore_n 2, 1) := by decide +kernel
theorem dX1_putInOrder_11 : decode cX1_putInOrder 11 = .ok (.iload_n 2, 1) := by decide +kernel
theorem dX1_putInOrder_12 : decode cX1_putInOrder 12 = .ok (.aload_n 0, 1) := by decide +kernel
theorem dX1_putInOrder_13 : decode cX1_putInOrder 13 = .ok (.getfield 31, 3) := by decide +kernel
theorem dX1_putInOrder_16 : decode cX1_putInOrder 16 = .ok (.if_icmp .ge 38, 3) := by decide +kernel
theorem dX1_putInOrder_19 : decode cX1_putInOrder 19 = .ok (.iload_n 1, 1) := by decide +kernel
theorem dX1_putInOrder_20 : decode cX1_putInOrder 20 = .ok (.aload_n 0, 1) := by decide +kernel
theorem dX1_putInOrder_21 : decode cX1_putInOrder 21 = .ok (.iload_n 1, 1) := by decide +kernel
theorem dX1_putInOrder_22 : decode cX1_putInOrder 22 = .ok (.invokevirtual 76, 3) := by decide +kernel
theorem dX1_putInOrder_25 : decode cX1_putInOrder 25 = .ok (.iconst (-1), 1) := by decide +kernel
theorem dX1_putInOrder_26 : decode cX1_putInOrder 26 = .ok (.ixor, 1) := by decide +kernel
theorem dX1_putInOrder_27 : decode cX1_putInOrder 27 = .ok (.iand, 1) := by decide +kernel
theorem dX1_putInOrder_28 : decode cX1_putInOrder 28 = .ok (.iconst 0, 1) := by decide +kernel
theorem dX1_putInOrder_29 : decode cX1_putInOrder 29 = .ok (.invokestatic 80, 3) := by decide +kernel
theorem dX1_putInOrder_32 : decode cX1_putInOrder 32 = .ok (.istore_n 3, 1) := by decide +kernel
theorem dX1_putInOrder_33 : decode cX1_putInOrder 33 = .ok (.aload_n 0, 1) := by decide +kernel
theorem dX1_putInOrder_34 : decode cX1_putInOrder 34 = .ok (.getfield 18, 3) := by decide +kernel
theorem dX1_putInOrder_37 : decode cX1_putInOrder 37 = .ok (.iload_n 2, 1) := by decide +kernel
theorem dX1_putInOrder_38 : decode cX1_putInOrder 38 = .ok (.iload_n 3, 1) := by decide +kernel
theorem dX1_putInOrder_39 : decode cX1_putInOrder 39 = .ok (.iastore, 1) := by decide +kernel
theorem dX1_putInOrder_40 : decode cX1_putInOrder 40 = .ok (.iload_n 1, 1) := by decide +kernel
theorem dX1_putInOrder_41 : decode cX1_putInOrder 41 = .ok (.iconst 1, 1) := by decide +kernel
theorem dX1_putInOrder_42 : decode cX1_putInOrder 42 = .ok (.iload_n 3, 1) := by decide +kernel
theorem dX1_putInOrder_43 : decode cX1_putInOrder 43 = .ok (.ishl, 1) := by decide +kernel
theorem dX1_putInOrder_44 : decode cX1_putInOrder 44 = .ok (.iconst (-1), 1) := by decide +kernel
theorem dX1_putInOrder_45 : decode cX1_putInOrder 45 = .ok (.ixor, 1) := by decide +kernel
theorem dX1_putInOrder_46 : decode cX1_putInOrder 46 = .ok (.iand, 1) := by decide +kernel
theorem dX1_putInOrder_47 : decode cX1_putInOrder 47 = .ok (.istore_n 1, 1) := by decide +kernel
theorem dX1_putInOrder_48 : decode cX1_putInOrder 48 = .ok (.iinc 2 1, 3) := by decide +kernel
theorem dX1_putInOrder_51 : decode cX1_putInOrder 51 = .ok (.goto (-40), 3) := by decide +kernel
theorem dX1_putInOrder_54 : decode cX1_putInOrder 54 = .ok (.return_, 1) := by decide +kernel
theorem dX1_beatenByAny_0 : decode cX1_beatenByAny 0 = .ok (.iconst 0, 1) := by decide +kernel
theorem dX1_beatenByAny_1 : decode cX1_beatenByAny 1 = .ok (.istore_n 2, 1) := by decide +kernel
theorem dX1_beatenByAny_2 : decode cX1_beatenByAny 2 = .ok (.iconst 0, 1) := by decide +kernel
theorem dX1_beatenByAny_3 : decode cX1_beatenByAny 3 = .ok (.istore_n 3, 1) := by decide +kernel
theorem dX1_beatenByAny_4 : decode cX1_beatenByAny 4 = .ok (.iload_n 3, 1) := by decide +kernel
theorem dX1_beatenByAny_5 : decode cX1_beatenByAny 5 = .ok (.aload_n 0, 1) := by decide +kernel
theorem dX1_beatenByAny_6 : decode cX1_beatenByAny 6 = .ok (.getfield 31, 3) := by decide +kernel
theorem dX1_beatenByAny_9 : decode cX1_beatenByAny 9 = .ok (.if_icmp .ge 26, 3) := by decide +kernel
theorem dX1_beatenByAny_12 : decode cX1_beatenByAny 12 = .ok (.iload_n 1, 1) := by decide +kernel
theorem dX1_beatenByAny_13 : decode cX1_beatenByAny 13 = .ok (.iconst 1, 1) := by decide +kernel
theorem dX1_beatenByAny_14 : decode cX1_beatenByAny 14 = .ok (.iload_n 3, 1) := by decide +kernel
theorem dX1_beatenByAny_15 : decode cX1_beatenByAny 15 = .ok (.ishl, 1) := by decide +kernel
theorem dX1_beatenByAny_16 : decode cX1_beatenByAny 16 = .ok (.iand, 1) := by decide +kernel
theorem dX1_beatenByAny_17 : decode cX1_beatenByAny 17 = .ok (.ifCond .eq 12, 3) := by decide +kernel
theorem dX1_beatenByAny_20 : decode cX1_beatenByAny 20 = .ok (.iload_n 2, 1) := by decide +kernel
theorem dX1_beatenByAny_21 : decode cX1_beatenByAny 21 = .ok (.aload_n 0, 1) := by decide +kernel
theorem dX1_beatenByAny_22 : decode cX1_beatenByAny 22 = .ok (.getfield 28, 3) := by decide +kernel
theorem dX1_beatenByAny_25 : decode cX1_beatenByAny 25 = .ok (.iload_n 3, 1) := by decide +kernel
theorem dX1_beatenByAny_26 : decode cX1_beatenByAny 26 = .ok (.iaload, 1) := by decide +kernel
theorem dX1_beatenByAny_27 : decode cX1_beatenByAny 27 = .ok (.ior, 1) := by decide +kernel
theorem dX1_beatenByAny_28 : decode cX1_beatenByAny 28 = .ok (.istore_n 2, 1) := by decide +kernel
theorem dX1_beatenByAny_29 : decode cX1_beatenByAny 29 = .ok (.iinc 3 1, 3) := by decide +kernel
theorem dX1_beatenByAny_32 : decode cX1_beatenByAny 32 = .ok (.goto (-28), 3) := by decide +kernel
theorem dX1_beatenByAny_35 : decode cX1_beatenByAny 35 = .ok (.iload_n 2, 1) := by decide +kernel
theorem dX1_beatenByAny_36 : decode cX1_beatenByAny 36 = .ok (.ireturn, 1) := by decide +kernel
theorem dX1_beatenBy_0 : decode cX1_beatenBy 0 = .ok (.iload_n 1, 1) := by decide +kernel
theorem dX1_beatenBy_1 : decode cX1_beatenBy 1 = .ok (.ifCond .lt 20, 3) := by decide +kernel
theorem dX1_beatenBy_4 : decode cX1_beatenBy 4 = .ok (.iload_n 1, 1) := by decide +kernel
theorem dX1_beatenBy_5 : decode cX1_beatenBy 5 = .ok (.aload_n 0, 1) := by decide +kernel
theorem dX1_beatenBy_6 : decode cX1_beatenBy 6 = .ok (.getfield 31, 3) := by decide +kernel
theorem dX1_beatenBy_9 : decode cX1_beatenBy 9 = .ok (.if_icmp .ge 12, 3) := by decide +kernel
theorem dX1_beatenBy_12 : decode cX1_beatenBy 12 = .ok (.aload_n 0, 1) := by decide +kernel
theorem dX1_beatenBy_13 : decode cX1_beatenBy 13 = .ok (.getfield 28, 3) := by decide +kernel
theorem dX1_beatenBy_16 : decode cX1_beatenBy 16 = .ok (.iload_n 1, 1) := by decide +kernel
theorem dX1_beatenBy_17 : decode cX1_beatenBy 17 = .ok (.iaload, 1) := by decide +kernel
theorem dX1_beatenBy_18 : decode cX1_beatenBy 18 = .ok (.goto 4, 3) := by decide +kernel
theorem dX1_beatenBy_21 : decode cX1_beatenBy 21 = .ok (.iconst 0, 1) := by decide +kernel
theorem dX1_beatenBy_22 : decode cX1_beatenBy 22 = .ok (.ireturn, 1) := by decide +kernel
theorem dX1_beatersOf_0 : decode cX1_beatersOf 0 = .ok (.iconst 0, 1) := by decide +kernel
theorem dX1_beatersOf_1 : decode cX1_beatersOf 1 = .ok (.istore_n 2, 1) := by decide +kernel
theorem dX1_beatersOf_2 : decode cX1_beatersOf 2 = .ok (.iconst 0, 1) := by decide +kernel
theorem dX1_beatersOf_3 : decode cX1_beatersOf 3 = .ok (.istore_n 3, 1) := by decide +kernel
theorem dX1_beatersOf_4 : decode cX1_beatersOf 4 = .ok (.iload_n 3, 1) := by decide +kernel
theorem dX1_beatersOf_5 : decode cX1_beatersOf 5 = .ok (.aload_n 0, 1) := by decide +kernel
theorem dX1_beatersOf_6 : decode cX1_beatersOf 6 = .ok (.getfield 31, 3) := by decide +kernel
theorem dX1_beatersOf_9 : decode cX1_beatersOf 9 = .ok (.if_icmp .ge 28, 3) := by decide +kernel
theorem dX1_beatersOf_12 : decode cX1_beatersOf 12 = .ok (.aload_n 0, 1) := by decide +kernel
theorem dX1_beatersOf_13 : decode cX1_beatersOf 13 = .ok (.getfield 28, 3) := by decide +kernel
theorem dX1_beatersOf_16 : decode cX1_beatersOf 16 = .ok (.iload_n 3, 1) := by decide +kernel
theorem dX1_beatersOf_17 : decode cX1_beatersOf 17 = .ok (.iaload, 1) := by decide +kernel
theorem dX1_beatersOf_18 : decode cX1_beatersOf 18 = .ok (.iconst 1, 1) := by decide +kernel
theorem dX1_beatersOf_19 : decode cX1_beatersOf 19 = .ok (.iload_n 1, 1) := by decide +kernel
theorem dX1_beatersOf_20 : decode cX1_beatersOf 20 = .ok (.ishl, 1) := by decide +kernel
theorem dX1_beatersOf_21 : decode cX1_beatersOf 21 = .ok (.iand, 1) := by decide +kernel
theorem dX1_beatersOf_22 : decode cX1_beatersOf 22 = .ok (.ifCond .eq 9, 3) := by decide +kernel
theorem dX1_beatersOf_25 : decode cX1_beatersOf 25 = .ok (.iload_n 2, 1) := by decide +kernel
theorem dX1_beatersOf_26 : decode cX1_beatersOf 26 = .ok (.iconst 1, 1) := by decide +kernel
theorem dX1_beatersOf_27 : decode cX1_beatersOf 27 = .ok (.iload_n 3, 1) := by decide +kernel
theorem dX1_beatersOf_28 : decode cX1_beatersOf 28 = .ok (.ishl, 1) := by decide +kernel
theorem dX1_beatersOf_29 : decode cX1_beatersOf 29 = .ok (.ior, 1) := by decide +kernel
theorem dX1_beatersOf_30 : decode cX1_beatersOf 30 = .ok (.istore_n 2, 1) := by decide +kernel
theorem dX1_beatersOf_31 : decode cX1_beatersOf 31 = .ok (.iinc 3 1, 3) := by decide +kernel
theorem dX1_beatersOf_34 : decode cX1_beatersOf 34 = .ok (.goto (-30), 3) := by decide +kernel
theorem dX1_beatersOf_37 : decode cX1_beatersOf 37 = .ok (.iload_n 2, 1) := by decide +kernel
theorem dX1_beatersOf_38 : decode cX1_beatersOf 38 = .ok (.ireturn, 1) := by decide +kernel
set_option maxRecDepth 20000 in
theorem ggX1_takersOf_X1_takersOfClass : GoodIn wsX1_takersOf wsX1_takersOfClass := goodIn_r _ [9, 1, 10, 11, 12, 13, 14, 15, 16, 17, 18, 19, 20, 21, 22, 23, 24, 35, 36, 37, 38, 39, 40, 41, 42, 43, 44, 48, 49, 50, 51, 52, 53, 54, 55, 56, 57, 58, 59, 60, 61] (by decide +kernel) (by decide +kernel)
set_option maxRecDepth 20000 in
theorem gX1_takersOf_X1_takersOfClass : GoodIn wsX1_takersOf (wsV RX1 89 RX1 yX1_takersOfClass wsX1_takersOfClass) := goodIn_app (goodIn_of _ (by decide +kernel)) ggX1_takersOf_X1_takersOfClass
set_option maxRecDepth 20000 in
theorem ggX1_takersOf_X1_takersOfWeight : GoodIn wsX1_takersOf wsX1_takersOfWeight := goodIn_r _ [28, 1, 10, 29, 30, 31, 14, 32, 33, 34, 35, 36, 37, 38, 39, 40, 41, 42, 43, 44, 48, 49, 50, 51, 52, 53, 54, 55, 56] (by decide +kernel) (by decide +kernel)
set_option maxRecDepth 20000 in
theorem gX1_takersOf_X1_takersOfWeight : GoodIn wsX1_takersOf (wsV RX1 95 RX1 yX1_takersOfWeight wsX1_takersOfWeight) := goodIn_app (goodIn_of _ (by decide +kernel)) ggX1_takersOf_X1_takersOfWeight
theorem dX1_takersOf_0 : decode cX1_takersOf 0 = .ok (.iconst 1, 1) := by decide +kernel
theorem dX1_takersOf_1 : decode cX1_takersOf 1 = .ok (.aload_n 0, 1) := by decide +kernel
theorem dX1_takersOf_2 : decode cX1_takersOf 2 = .ok (.getfield 31, 3) := by decide +kernel
theorem dX1_takersOf_5 : decode cX1_takersOf 5 = .ok (.ishl, 1) := by decide +kernel
theorem dX1_takersOf_6 : decode cX1_takersOf 6 = .ok (.iconst 1, 1) := by decide +kernel
theorem dX1_takersOf_7 : decode cX1_takersOf 7 = .ok (.isub, 1) := by decide +kernel
theorem dX1_takersOf_8 : decode cX1_takersOf 8 = .ok (.istore_n 2, 1) := by decide +kernel
theorem dX1_takersOf_9 : decode cX1_takersOf 9 = .ok (.iconst 0, 1) := by decide +kernel
theorem dX1_takersOf_10 : decode cX1_takersOf 10 = .ok (.istore_n 3, 1) := by decide +kernel
theorem dX1_takersOf_11 : decode cX1_takersOf 11 = .ok (.iload_n 3, 1) := by decide +kernel
theorem dX1_takersOf_12 : decode cX1_takersOf 12 = .ok (.aload_n 0, 1) := by decide +kernel
theorem dX1_takersOf_13 : decode cX1_takersOf 13 = .ok (.getfield 49, 3) := by decide +kernel
theorem dX1_takersOf_16 : decode cX1_takersOf 16 = .ok (.if_icmp .ge 35, 3) := by decide +kernel
theorem dX1_takersOf_19 : decode cX1_takersOf 19 = .ok (.iload_n 2, 1) := by decide +kernel
theorem dX1_takersOf_20 : decode cX1_takersOf 20 = .ok (.aload_n 0, 1) := by decide +kernel
theorem dX1_takersOf_21 : decode cX1_takersOf 21 = .ok (.iload_n 3, 1) := by decide +kernel
theorem dX1_takersOf_22 : decode cX1_takersOf 22 = .ok (.aload_n 1, 1) := by decide +kernel
theorem dX1_takersOf_23 : decode cX1_takersOf 23 = .ok (.getfield 84, 3) := by decide +kernel
theorem dX1_takersOf_26 : decode cX1_takersOf 26 = .ok (.iload_n 3, 1) := by decide +kernel
theorem dX1_takersOf_27 : decode cX1_takersOf 27 = .ok (.iaload, 1) := by decide +kernel
theorem dX1_takersOf_28 : decode cX1_takersOf 28 = .ok (.invokevirtual 89, 3) := by decide +kernel
theorem dX1_takersOf_31 : decode cX1_takersOf 31 = .ok (.aload_n 0, 1) := by decide +kernel
theorem dX1_takersOf_32 : decode cX1_takersOf 32 = .ok (.iload_n 3, 1) := by decide +kernel
theorem dX1_takersOf_33 : decode cX1_takersOf 33 = .ok (.aload_n 1, 1) := by decide +kernel
theorem dX1_takersOf_34 : decode cX1_takersOf 34 = .ok (.getfield 92, 3) := by decide +kernel
theorem dX1_takersOf_37 : decode cX1_takersOf 37 = .ok (.iload_n 3, 1) := by decide +kernel
theorem dX1_takersOf_38 : decode cX1_takersOf 38 = .ok (.iaload, 1) := by decide +kernel
theorem dX1_takersOf_39 : decode cX1_takersOf 39 = .ok (.invokevirtual 95, 3) := by decide +kernel
theorem dX1_takersOf_42 : decode cX1_takersOf 42 = .ok (.iand, 1) := by decide +kernel
theorem dX1_takersOf_43 : decode cX1_takersOf 43 = .ok (.iand, 1) := by decide +kernel
theorem dX1_takersOf_44 : decode cX1_takersOf 44 = .ok (.istore_n 2, 1) := by decide +kernel
theorem dX1_takersOf_45 : decode cX1_takersOf 45 = .ok (.iinc 3 1, 3) := by decide +kernel
theorem dX1_takersOf_48 : decode cX1_takersOf 48 = .ok (.goto (-37), 3) := by decide +kernel
theorem dX1_takersOf_51 : decode cX1_takersOf 51 = .ok (.iload_n 2, 1) := by decide +kernel
theorem dX1_takersOf_52 : decode cX1_takersOf 52 = .ok (.ireturn, 1) := by decide +kernel
set_option maxRecDepth 20000 in
theorem ggX1_plainTakersOf_X1_takersOf : GoodIn wsX1_plainTakersOf wsX1_takersOf := goodIn_r _ [6, 7, 8, 9, 10, 11, 12, 13, 5, 14, 15, 16, 17, 18, 19, 20, 21, 22, 23, 24, 25, 26, 27, 28, 29, 30, 31, 32, 33, 34, 35, 36, 37, 38, 39, 40, 41, 42, 43, 44, 45, 46, 47, 48, 49, 50, 51, 52, 53, 54, 55, 56, 57, 58, 59, 60, 61, 62, 63, 64, 65, 66] (by decide +kernel) (by decide +kernel)
set_option maxRecDepth 20000 in
theorem gX1_plainTakersOf_X1_takersOf : GoodIn wsX1_plainTakersOf (wsV RX1 98 RX1 yX1_takersOf wsX1_takersOf) := goodIn_app (goodIn_of _ (by decide +kernel)) ggX1_plainTakersOf_X1_takersOf
theorem dX1_plainTakersOf_0 : decode cX1_plainTakersOf 0 = .ok (.aload_n 0, 1) := by decide +kernel
theorem dX1_plainTakersOf_1 : decode cX1_plainTakersOf 1 = .ok (.aload_n 1, 1) := by decide +kernel
theorem dX1_plainTakersOf_2 : decode cX1_plainTakersOf 2 = .ok (.invokevirtual 98, 3) := by decide +kernel
theorem dX1_plainTakersOf_5 : decode cX1_plainTakersOf 5 = .ok (.aload_n 0, 1) := by decide +kernel
theorem dX1_plainTakersOf_6 : decode cX1_plainTakersOf 6 = .ok (.getfield 35, 3) := by decide +kernel
theorem dX1_plainTakersOf_9 : decode cX1_plainTakersOf 9 = .ok (.iand, 1) := by decide +kernel
theorem dX1_plainTakersOf_10 : decode cX1_plainTakersOf 10 = .ok (.ireturn, 1) := by decide +kernel
set_option maxRecDepth 20000 in
theorem ggX1_takersOfClass_X2_takesClass : GoodIn wsX1_takersOfClass wsX2_takesClass := goodIn_r _ [7, 8, 9, 10, 11, 12, 13, 14, 15, 16, 27, 28, 29, 30, 31, 32, 33, 34, 35, 17, 18, 19, 20, 21, 22, 23, 24, 25, 26, 36, 37, 38, 39, 40] (by decide +kernel) (by decide +kernel)
set_option maxRecDepth 20000 in
theorem gX1_takersOfClass_X2_takesClass : GoodIn wsX1_takersOfClass (wsV RX1 102 RX2 yX2_takesClass wsX2_takesClass) := goodIn_app (goodIn_of _ (by decide +kernel)) ggX1_takersOfClass_X2_takesClass
theorem dX1_takersOfClass_0 : decode cX1_takersOfClass 0 = .ok (.iconst 0, 1) := by decide +kernel
theorem dX1_takersOfClass_1 : decode cX1_takersOfClass 1 = .ok (.istore_n 3, 1) := by decide +kernel
theorem dX1_takersOfClass_2 : decode cX1_takersOfClass 2 = .ok (.iconst 0, 1) := by decide +kernel
theorem dX1_takersOfClass_3 : decode cX1_takersOfClass 3 = .ok (.istore 4, 2) := by decide +kernel
theorem dX1_takersOfClass_5 : decode cX1_takersOfClass 5 = .ok (.iload 4, 2) := by decide +kernel
theorem dX1_takersOfClass_7 : decode cX1_takersOfClass 7 = .ok (.aload_n 0, 1) := by decide +kernel
theorem dX1_takersOfClass_8 : decode cX1_takersOfClass 8 = .ok (.getfield 31, 3) := by decide +kernel
theorem dX1_takersOfClass_11 : decode cX1_takersOfClass 11 = .ok (.if_icmp .ge 31, 3) := by decide +kernel
theorem dX1_takersOfClass_14 : decode cX1_takersOfClass 14 = .ok (.aload_n 0, 1) := by decide +kernel
theorem dX1_takersOfClass_15 : decode cX1_takersOfClass 15 = .ok (.getfield 24, 3) := by decide +kernel
theorem dX1_takersOfClass_18 : decode cX1_takersOfClass 18 = .ok (.iload 4, 2) := by decide +kernel
theorem dX1_takersOfClass_20 : decode cX1_takersOfClass 20 = .ok (.aaload, 1) := by decide +kernel
theorem dX1_takersOfClass_21 : decode cX1_takersOfClass 21 = .ok (.iload_n 1, 1) := by decide +kernel
theorem dX1_takersOfClass_22 : decode cX1_takersOfClass 22 = .ok (.iload_n 2, 1) := by decide +kernel
theorem dX1_takersOfClass_23 : decode cX1_takersOfClass 23 = .ok (.invokevirtual 102, 3) := by decide +kernel
theorem dX1_takersOfClass_26 : decode cX1_takersOfClass 26 = .ok (.ifCond .eq 10, 3) := by decide +kernel
theorem dX1_takersOfClass_29 : decode cX1_takersOfClass 29 = .ok (.iload_n 3, 1) := by decide +kernel
theorem dX1_takersOfClass_30 : decode cX1_takersOfClass 30 = .ok (.iconst 1, 1) := by decide +kernel
theorem dX1_takersOfClass_31 : decode cX1_takersOfClass 31 = .ok (.iload 4, 2) := by decide +kernel
theorem dX1_takersOfClass_33 : decode cX1_takersOfClass 33 = .ok (.ishl, 1) := by decide +kernel
theorem dX1_takersOfClass_34 : decode cX1_takersOfClass 34 = .ok (.ior, 1) := by decide +kernel
theorem dX1_takersOfClass_35 : decode cX1_takersOfClass 35 = .ok (.istore_n 3, 1) := by decide +kernel
theorem dX1_takersOfClass_36 : decode cX1_takersOfClass 36 = .ok (.iinc 4 1, 3) := by decide +kernel
theorem dX1_takersOfClass_39 : decode cX1_takersOfClass 39 = .ok (.goto (-34), 3) := by decide +kernel
theorem dX1_takersOfClass_42 : decode cX1_takersOfClass 42 = .ok (.iload_n 3, 1) := by decide +kernel
theorem dX1_takersOfClass_43 : decode cX1_takersOfClass 43 = .ok (.ireturn, 1) := by decide +kernel
set_option maxRecDepth 20000 in
theorem ggX1_takersOfWeight_X2_takesWeight : GoodIn wsX1_takersOfWeight wsX2_takesWeight := goodIn_r _ [7, 8, 9, 20, 21, 22, 23, 24, 25, 26, 27, 28] (by decide +kernel) (by decide +kernel)
set_option maxRecDepth 20000 in
theorem gX1_takersOfWeight_X2_takesWeight : GoodIn wsX1_takersOfWeight (wsV RX1 106 RX2 yX2_takesWeight wsX2_takesWeight) := goodIn_app (goodIn_of _ (by decide +kernel)) ggX1_takersOfWeight_X2_takesWeight
theorem dX1_takersOfWeight_0 : decode cX1_takersOfWeight 0 = .ok (.iconst 0, 1) := by decide +kernel
theorem dX1_takersOfWeight_1 : decode cX1_takersOfWeight 1 = .ok (.istore_n 3, 1) := by decide +kernel
theorem dX1_takersOfWeight_2 : decode cX1_takersOfWeight 2 = .ok (.iconst 0, 1) := by decide +kernel
theorem dX1_takersOfWeight_3 : decode cX1_takersOfWeight 3 = .ok (.istore 4, 2) := by decide +kernel
theorem dX1_takersOfWeight_5 : decode cX1_takersOfWeight 5 = .ok (.iload 4, 2) := by decide +kernel
theorem dX1_takersOfWeight_7 : decode cX1_takersOfWeight 7 = .ok (.aload_n 0, 1) := by decide +kernel
theorem dX1_takersOfWeight_8 : decode cX1_takersOfWeight 8 = .ok (.getfield 31, 3) := by decide +kernel
theorem dX1_takersOfWeight_11 : decode cX1_takersOfWeight 11 = .ok (.if_icmp .ge 31, 3) := by decide +kernel
theorem dX1_takersOfWeight_14 : decode cX1_takersOfWeight 14 = .ok (.aload_n 0, 1) := by decide +kernel
theorem dX1_takersOfWeight_15 : decode cX1_takersOfWeight 15 = .ok (.getfield 24, 3) := by decide +kernel
theorem dX1_takersOfWeight_18 : decode cX1_takersOfWeight 18 = .ok (.iload 4, 2) := by decide +kernel
theorem dX1_takersOfWeight_20 : decode cX1_takersOfWeight 20 = .ok (.aaload, 1) := by decide +kernel
theorem dX1_takersOfWeight_21 : decode cX1_takersOfWeight 21 = .ok (.iload_n 1, 1) := by decide +kernel
theorem dX1_takersOfWeight_22 : decode cX1_takersOfWeight 22 = .ok (.iload_n 2, 1) := by decide +kernel
theorem dX1_takersOfWeight_23 : decode cX1_takersOfWeight 23 = .ok (.invokevirtual 106, 3) := by decide +kernel
theorem dX1_takersOfWeight_26 : decode cX1_takersOfWeight 26 = .ok (.ifCond .eq 10, 3) := by decide +kernel
theorem dX1_takersOfWeight_29 : decode cX1_takersOfWeight 29 = .ok (.iload_n 3, 1) := by decide +kernel
theorem dX1_takersOfWeight_30 : decode cX1_takersOfWeight 30 = .ok (.iconst 1, 1) := by decide +kernel
theorem dX1_takersOfWeight_31 : decode cX1_takersOfWeight 31 = .ok (.iload 4, 2) := by decide +kernel
theorem dX1_takersOfWeight_33 : decode cX1_takersOfWeight 33 = .ok (.ishl, 1) := by decide +kernel
theorem dX1_takersOfWeight_34 : decode cX1_takersOfWeight 34 = .ok (.ior, 1) := by decide +kernel
theorem dX1_takersOfWeight_35 : decode cX1_takersOfWeight 35 = .ok (.istore_n 3, 1) := by decide +kernel
theorem dX1_takersOfWeight_36 : decode cX1_takersOfWeight 36 = .ok (.iinc 4 1, 3) := by decide +kernel
theorem dX1_takersOfWeight_39 : decode cX1_takersOfWeight 39 = .ok (.goto (-34), 3) := by decide +kernel
theorem dX1_takersOfWeight_42 : decode cX1_takersOfWeight 42 = .ok (.iload_n 3, 1) := by decide +kernel
theorem dX1_takersOfWeight_43 : decode cX1_takersOfWeight 43 = .ok (.ireturn, 1) := by decide +kernel
theorem dX1_chosenOf_0 : decode cX1_chosenOf 0 = .ok (.iconst 0, 1) := by decide +kernel
theorem dX1_chosenOf_1 : decode cX1_chosenOf 1 = .ok (.istore_n 2, 1) := by decide +kernel
theorem dX1_chosenOf_2 : decode cX1_chosenOf 2 = .ok (.iload_n 2, 1) := by decide +kernel
theorem dX1_chosenOf_3 : decode cX1_chosenOf 3 = .ok (.aload_n 0, 1) := by decide +kernel
theorem dX1_chosenOf_4 : decode cX1_chosenOf 4 = .ok (.getfield 31, 3) := by decide +kernel
theorem dX1_chosenOf_7 : decode cX1_chosenOf 7 = .ok (.if_icmp .ge 38, 3) := by decide +kernel
theorem dX1_chosenOf_10 : decode cX1_chosenOf 10 = .ok (.iconst 1, 1) := by decide +kernel
theorem dX1_chosenOf_11 : decode cX1_chosenOf 11 = .ok (.iload_n 2, 1) := by decide +kernel
theorem dX1_chosenOf_12 : decode cX1_chosenOf 12 = .ok (.ishl, 1) := by decide +kernel
theorem dX1_chosenOf_13 : decode cX1_chosenOf 13 = .ok (.istore_n 3, 1) := by decide +kernel
theorem dX1_chosenOf_14 : decode cX1_chosenOf 14 = .ok (.iload_n 1, 1) := by decide +kernel
theorem dX1_chosenOf_15 : decode cX1_chosenOf 15 = .ok (.iload_n 3, 1) := by decide +kernel
theorem dX1_chosenOf_16 : decode cX1_chosenOf 16 = .ok (.iand, 1) := by decide +kernel
theorem dX1_chosenOf_17 : decode cX1_chosenOf 17 = .ok (.ifCond .eq 22, 3) := by decide +kernel
theorem dX1_chosenOf_20 : decode cX1_chosenOf 20 = .ok (.iload_n 1, 1) := by decide +kernel
theorem dX1_chosenOf_21 : decode cX1_chosenOf 21 = .ok (.iload_n 3, 1) := by decide +kernel
theorem dX1_chosenOf_22 : decode cX1_chosenOf 22 = .ok (.iconst (-1), 1) := by decide +kernel
theorem dX1_chosenOf_23 : decode cX1_chosenOf 23 = .ok (.ixor, 1) := by decide +kernel
theorem dX1_chosenOf_24 : decode cX1_chosenOf 24 = .ok (.iand, 1) := by decide +kernel
theorem dX1_chosenOf_25 : decode cX1_chosenOf 25 = .ok (.aload_n 0, 1) := by decide +kernel
theorem dX1_chosenOf_26 : decode cX1_chosenOf 26 = .ok (.getfield 28, 3) := by decide +kernel
theorem dX1_chosenOf_29 : decode cX1_chosenOf 29 = .ok (.iload_n 2, 1) := by decide +kernel
theorem dX1_chosenOf_30 : decode cX1_chosenOf 30 = .ok (.iaload, 1) := by decide +kernel
theorem dX1_chosenOf_31 : decode cX1_chosenOf 31 = .ok (.iconst (-1), 1) := by decide +kernel
theorem dX1_chosenOf_32 : decode cX1_chosenOf 32 = .ok (.ixor, 1) := by decide +kernel
theorem dX1_chosenOf_33 : decode cX1_chosenOf 33 = .ok (.iand, 1) := by decide +kernel
theorem dX1_chosenOf_34 : decode cX1_chosenOf 34 = .ok (.ifCond .ne 5, 3) := by decide +kernel
theorem dX1_chosenOf_37 : decode cX1_chosenOf 37 = .ok (.iload_n 2, 1) := by decide +kernel
theorem dX1_chosenOf_38 : decode cX1_chosenOf 38 = .ok (.ireturn, 1) := by decide +kernel
theorem dX1_chosenOf_39 : decode cX1_chosenOf 39 = .ok (.iinc 2 1, 3) := by decide +kernel
theorem dX1_chosenOf_42 : decode cX1_chosenOf 42 = .ok (.goto (-40), 3) := by decide +kernel
theorem dX1_chosenOf_45 : decode cX1_chosenOf 45 = .ok (.iconst (-1), 1) := by decide +kernel
theorem dX1_chosenOf_46 : decode cX1_chosenOf 46 = .ok (.ireturn, 1) := by decide +kernel
set_option maxRecDepth 20000 in
theorem ggX1_lookForRow_X1_pieceOf : GoodIn wsX1_lookForRow wsX1_pieceOf := goodIn_r _ [9, 10, 11, 12, 13, 14, 15, 16, 17, 18, 42, 43, 44, 45, 46, 47, 48, 49, 50, 51, 52, 53, 54, 55, 56, 57, 58, 59, 60] (by decide +kernel) (by decide +kernel)
set_option maxRecDepth 20000 in
theorem gX1_lookForRow_X1_pieceOf : GoodIn wsX1_lookForRow (wsV RX1 109 RX1 yX1_pieceOf wsX1_pieceOf) := goodIn_app (goodIn_of _ (by decide +kernel)) ggX1_lookForRow_X1_pieceOf
set_option maxRecDepth 20000 in
theorem ggX1_lookForRow_X4_look : GoodIn wsX1_lookForRow wsX4_look := goodIn_r _ [23, 24, 25, 26, 27, 28, 29, 30, 31, 32, 22, 33, 34, 35, 36, 37, 38, 61, 62, 63, 64, 65, 66, 67] (by decide +kernel) (by decide +kernel)
set_option maxRecDepth 20000 in
theorem gX1_lookForRow_X4_look : GoodIn wsX1_lookForRow (wsV RX1 113 RX4 yX4_look wsX4_look) := goodIn_app (goodIn_of _ (by decide +kernel)) ggX1_lookForRow_X4_look
theorem dX1_lookForRow_0 : decode cX1_lookForRow 0 = .ok (.aload_n 1, 1) := by decide +kernel
theorem dX1_lookForRow_1 : decode cX1_lookForRow 1 = .ok (.getfield 84, 3) := by decide +kernel
theorem dX1_lookForRow_4 : decode cX1_lookForRow 4 = .ok (.iconst 0, 1) := by decide +kernel
theorem dX1_lookForRow_5 : decode cX1_lookForRow 5 = .ok (.iaload, 1) := by decide +kernel
theorem dX1_lookForRow_6 : decode cX1_lookForRow 6 = .ok (.istore_n 2, 1) := by decide +kernel
theorem dX1_lookForRow_7 : decode cX1_lookForRow 7 = .ok (.aload_n 0, 1) := by decide +kernel
theorem dX1_lookForRow_8 : decode cX1_lookForRow 8 = .ok (.iconst 0, 1) := by decide +kernel
theorem dX1_lookForRow_9 : decode cX1_lookForRow 9 = .ok (.aload_n 1, 1) := by decide +kernel
theorem dX1_lookForRow_10 : decode cX1_lookForRow 10 = .ok (.getfield 92, 3) := by decide +kernel
theorem dX1_lookForRow_13 : decode cX1_lookForRow 13 = .ok (.iconst 0, 1) := by decide +kernel
theorem dX1_lookForRow_14 : decode cX1_lookForRow 14 = .ok (.iaload, 1) := by decide +kernel
theorem dX1_lookForRow_15 : decode cX1_lookForRow 15 = .ok (.invokevirtual 109, 3) := by decide +kernel
theorem dX1_lookForRow_18 : decode cX1_lookForRow 18 = .ok (.lstore_n 3, 1) := by decide +kernel
theorem dX1_lookForRow_19 : decode cX1_lookForRow 19 = .ok (.aload_n 0, 1) := by decide +kernel
theorem dX1_lookForRow_20 : decode cX1_lookForRow 20 = .ok (.getfield 49, 3) := by decide +kernel
theorem dX1_lookForRow_23 : decode cX1_lookForRow 23 = .ok (.iconst 2, 1) := by decide +kernel
theorem dX1_lookForRow_24 : decode cX1_lookForRow 24 = .ok (.if_icmp .ge 16, 3) := by decide +kernel
theorem dX1_lookForRow_27 : decode cX1_lookForRow 27 = .ok (.aload_n 0, 1) := by decide +kernel
theorem dX1_lookForRow_28 : decode cX1_lookForRow 28 = .ok (.getfield 12, 3) := by decide +kernel
theorem dX1_lookForRow_31 : decode cX1_lookForRow 31 = .ok (.iload_n 2, 1) := by decide +kernel
theorem dX1_lookForRow_32 : decode cX1_lookForRow 32 = .ok (.lload_n 3, 1) := by decide +kernel
theorem dX1_lookForRow_33 : decode cX1_lookForRow 33 = .ok (.lconst 0, 1) := by decide +kernel
theorem dX1_lookForRow_34 : decode cX1_lookForRow 34 = .ok (.invokevirtual 113, 3) := by decide +kernel
theorem dX1_lookForRow_37 : decode cX1_lookForRow 37 = .ok (.goto 33, 3) := by decide +kernel
theorem dX1_lookForRow_40 : decode cX1_lookForRow 40 = .ok (.aload_n 0, 1) := by decide +kernel
theorem dX1_lookForRow_41 : decode cX1_lookForRow 41 = .ok (.getfield 12, 3) := by decide +kernel
theorem dX1_lookForRow_44 : decode cX1_lookForRow 44 = .ok (.iload_n 2, 1) := by decide +kernel
theorem dX1_lookForRow_45 : decode cX1_lookForRow 45 = .ok (.bipush 12, 2) := by decide +kernel
theorem dX1_lookForRow_47 : decode cX1_lookForRow 47 = .ok (.imul, 1) := by decide +kernel
theorem dX1_lookForRow_48 : decode cX1_lookForRow 48 = .ok (.aload_n 1, 1) := by decide +kernel
theorem dX1_lookForRow_49 : decode cX1_lookForRow 49 = .ok (.getfield 84, 3) := by decide +kernel
theorem dX1_lookForRow_52 : decode cX1_lookForRow 52 = .ok (.iconst 1, 1) := by decide +kernel
theorem dX1_lookForRow_53 : decode cX1_lookForRow 53 = .ok (.iaload, 1) := by decide +kernel
theorem dX1_lookForRow_54 : decode cX1_lookForRow 54 = .ok (.iadd, 1) := by decide +kernel
theorem dX1_lookForRow_55 : decode cX1_lookForRow 55 = .ok (.lload_n 3, 1) := by decide +kernel
theorem dX1_lookForRow_56 : decode cX1_lookForRow 56 = .ok (.aload_n 0, 1) := by decide +kernel
theorem dX1_lookForRow_57 : decode cX1_lookForRow 57 = .ok (.iconst 1, 1) := by decide +kernel
theorem dX1_lookForRow_58 : decode cX1_lookForRow 58 = .ok (.aload_n 1, 1) := by decide +kernel
theorem dX1_lookForRow_59 : decode cX1_lookForRow 59 = .ok (.getfield 92, 3) := by decide +kernel
theorem dX1_lookForRow_62 : decode cX1_lookForRow 62 = .ok (.iconst 1, 1) := by decide +kernel
theorem dX1_lookForRow_63 : decode cX1_lookForRow 63 = .ok (.iaload, 1) := by decide +kernel
theorem dX1_lookForRow_64 : decode cX1_lookForRow 64 = .ok (.invokevirtual 109, 3) := by decide +kernel
theorem dX1_lookForRow_67 : decode cX1_lookForRow 67 = .ok (.invokevirtual 113, 3) := by decide +kernel
theorem dX1_lookForRow_70 : decode cX1_lookForRow 70 = .ok (.return_, 1) := by decide +kernel
theorem dX1_pieceOf_0 : decode cX1_pieceOf 0 = .ok (.ldc2_w 117, 3) := by decide +kernel
theorem dX1_pieceOf_3 : decode cX1_pieceOf 3 = .ok (.lstore_n 3, 1) := by decide +kernel
theorem dX1_pieceOf_4 : decode cX1_pieceOf 4 = .ok (.iconst 0, 1) := by decide +kernel
theorem dX1_pieceOf_5 : decode cX1_pieceOf 5 = .ok (.istore 5, 2) := by decide +kernel
theorem dX1_pieceOf_7 : decode cX1_pieceOf 7 = .ok (.iload 5, 2) := by decide +kernel
theorem dX1_pieceOf_9 : decode cX1_pieceOf 9 = .ok (.aload_n 0, 1) := by decide +kernel
theorem dX1_pieceOf_10 : decode cX1_pieceOf 10 = .ok (.getfield 31, 3) := by decide +kernel
theorem dX1_pieceOf_13 : decode cX1_pieceOf 13 = .ok (.if_icmp .ge 71, 3) := by decide +kernel
theorem dX1_pieceOf_16 : decode cX1_pieceOf 16 = .ok (.aload_n 0, 1) := by decide +kernel
theorem dX1_pieceOf_17 : decode cX1_pieceOf 17 = .ok (.getfield 24, 3) := by decide +kernel
theorem dX1_pieceOf_20 : decode cX1_pieceOf 20 = .ok (.iload 5, 2) := by decide +kernel
theorem dX1_pieceOf_22 : decode cX1_pieceOf 22 = .ok (.aaload, 1) := by decide +kernel
theorem dX1_pieceOf_23 : decode cX1_pieceOf 23 = .ok (.getfield 119, 3) := by decide +kernel
theorem dX1_pieceOf_26 : decode cX1_pieceOf 26 = .ok (.iload_n 1, 1) := by decide +kernel
theorem dX1_pieceOf_27 : decode cX1_pieceOf 27 = .ok (.iaload, 1) := by decide +kernel
theorem dX1_pieceOf_28 : decode cX1_pieceOf 28 = .ok (.i2l, 1) := by decide +kernel
theorem dX1_pieceOf_29 : decode cX1_pieceOf 29 = .ok (.lstore 6, 2) := by decide +kernel
theorem dX1_pieceOf_31 : decode cX1_pieceOf 31 = .ok (.aload_n 0, 1) := by decide +kernel
theorem dX1_pieceOf_32 : decode cX1_pieceOf 32 = .ok (.getfield 24, 3) := by decide +kernel
theorem dX1_pieceOf_35 : decode cX1_pieceOf 35 = .ok (.iload 5, 2) := by decide +kernel
theorem dX1_pieceOf_37 : decode cX1_pieceOf 37 = .ok (.aaload, 1) := by decide +kernel
theorem dX1_pieceOf_38 : decode cX1_pieceOf 38 = .ok (.getfield 122, 3) := by decide +kernel
theorem dX1_pieceOf_41 : decode cX1_pieceOf 41 = .ok (.iload_n 1, 1) := by decide +kernel
theorem dX1_pieceOf_42 : decode cX1_pieceOf 42 = .ok (.iaload, 1) := by decide +kernel
theorem dX1_pieceOf_43 : decode cX1_pieceOf 43 = .ok (.i2l, 1) := by decide +kernel
theorem dX1_pieceOf_44 : decode cX1_pieceOf 44 = .ok (.lconst 1, 1) := by decide +kernel
theorem dX1_pieceOf_45 : decode cX1_pieceOf 45 = .ok (.ladd, 1) := by decide +kernel
theorem dX1_pieceOf_46 : decode cX1_pieceOf 46 = .ok (.lstore 8, 2) := by decide +kernel
theorem dX1_pieceOf_48 : decode cX1_pieceOf 48 = .ok (.lload 6, 2) := by decide +kernel
theorem dX1_pieceOf_50 : decode cX1_pieceOf 50 = .ok (.iload_n 2, 1) := by decide +kernel
theorem dX1_pieceOf_51 : decode cX1_pieceOf 51 = .ok (.i2l, 1) := by decide +kernel
theorem dX1_pieceOf_52 : decode cX1_pieceOf 52 = .ok (.lcmp, 1) := by decide +kernel
theorem dX1_pieceOf_53 : decode cX1_pieceOf 53 = .ok (.ifCond .le 10, 3) := by decide +kernel
theorem dX1_pieceOf_56 : decode cX1_pieceOf 56 = .ok (.lload_n 3, 1) := by decide +kernel
theorem dX1_pieceOf_57 : decode cX1_pieceOf 57 = .ok (.lload 6, 2) := by decide +kernel
theorem dX1_pieceOf_59 : decode cX1_pieceOf 59 = .ok (.invokestatic 125, 3) := by decide +kernel
theorem dX1_pieceOf_62 : decode cX1_pieceOf 62 = .ok (.lstore_n 3, 1) := by decide +kernel
theorem dX1_pieceOf_63 : decode cX1_pieceOf 63 = .ok (.lload 8, 2) := by decide +kernel
theorem dX1_pieceOf_65 : decode cX1_pieceOf 65 = .ok (.iload_n 2, 1) := by decide +kernel
theorem dX1_pieceOf_66 : decode cX1_pieceOf 66 = .ok (.i2l, 1) := by decide +kernel
theorem dX1_pieceOf_67 : decode cX1_pieceOf 67 = .ok (.lcmp, 1) := by decide +kernel
theorem dX1_pieceOf_68 : decode cX1_pieceOf 68 = .ok (.ifCond .le 10, 3) := by decide +kernel
theorem dX1_pieceOf_71 : decode cX1_pieceOf 71 = .ok (.lload_n 3, 1) := by decide +kernel
theorem dX1_pieceOf_72 : decode cX1_pieceOf 72 = .ok (.lload 8, 2) := by decide +kernel
theorem dX1_pieceOf_74 : decode cX1_pieceOf 74 = .ok (.invokestatic 125, 3) := by decide +kernel
theorem dX1_pieceOf_77 : decode cX1_pieceOf 77 = .ok (.lstore_n 3, 1) := by decide +kernel
theorem dX1_pieceOf_78 : decode cX1_pieceOf 78 = .ok (.iinc 5 1, 3) := by decide +kernel
theorem dX1_pieceOf_81 : decode cX1_pieceOf 81 = .ok (.goto (-74), 3) := by decide +kernel
theorem dX1_pieceOf_84 : decode cX1_pieceOf 84 = .ok (.lload_n 3, 1) := by decide +kernel
theorem dX1_pieceOf_85 : decode cX1_pieceOf 85 = .ok (.lreturn, 1) := by decide +kernel
set_option maxRecDepth 20000 in
theorem ggX2_init_J7_fill_53178 : GoodIn wsX2_init wsJ7_fill_53178 := goodIn_r _ [20] (by decide +kernel) (by decide +kernel)
set_option maxRecDepth 20000 in
theorem gX2_init_J7_fill_53178 : GoodIn wsX2_init (va_wsS RX2 47 yJ7_fill_53178 wsJ7_fill_53178) := goodIn_app (goodIn_of _ (by decide +kernel)) ggX2_init_J7_fill_53178
theorem dX2_init_0 : decode cX2_init 0 = .ok (.aload_n 0, 1) := by decide +kernel
theorem dX2_init_1 : decode cX2_init 1 = .ok (.invokespecial 3, 3) := by decide +kernel
theorem dX2_init_4 : decode cX2_init 4 = .ok (.aload_n 0, 1) := by decide +kernel
theorem dX2_init_5 : decode cX2_init 5 = .ok (.iconst 0, 1) := by decide +kernel
theorem dX2_init_6 : decode cX2_init 6 = .ok (.putfield 9, 3) := by decide +kernel
theorem dX2_init_9 : decode cX2_init 9 = .ok (.aload_n 0, 1) := by decide +kernel
theorem dX2_init_10 : decode cX2_init 10 = .ok (.aload_n 1, 1) := by decide +kernel
theorem dX2_init_11 : decode cX2_init 11 = .ok (.putfield 15, 3) := by decide +kernel
theorem dX2_init_14 : decode cX2_init 14 = .ok (.aload_n 0, 1) := by decide +kernel
theorem dX2_init_15 : decode cX2_init 15 = .ok (.iload_n 2, 1) := by decide +kernel
theorem dX2_init_16 : decode cX2_init 16 = .ok (.putfield 19, 3) := by decide +kernel
theorem dX2_init_19 : decode cX2_init 19 = .ok (.aload_n 0, 1) := by decide +kernel
theorem dX2_init_20 : decode cX2_init 20 = .ok (.iload_n 3, 1) := by decide +kernel
theorem dX2_init_21 : decode cX2_init 21 = .ok (.putfield 22, 3) := by decide +kernel
theorem dX2_init_24 : decode cX2_init 24 = .ok (.aload_n 0, 1) := by decide +kernel
theorem dX2_init_25 : decode cX2_init 25 = .ok (.iload 4, 2) := by decide +kernel
theorem dX2_init_27 : decode cX2_init 27 = .ok (.putfield 25, 3) := by decide +kernel
theorem dX2_init_30 : decode cX2_init 30 = .ok (.aload_n 0, 1) := by decide +kernel
theorem dX2_init_31 : decode cX2_init 31 = .ok (.iload 5, 2) := by decide +kernel
theorem dX2_init_33 : decode cX2_init 33 = .ok (.putfield 28, 3) := by decide +kernel
theorem dX2_init_36 : decode cX2_init 36 = .ok (.aload_n 0, 1) := by decide +kernel
theorem dX2_init_37 : decode cX2_init 37 = .ok (.aload_n 1, 1) := by decide +kernel
theorem dX2_init_38 : decode cX2_init 38 = .ok (.getfield 32, 3) := by decide +kernel
theorem dX2_init_41 : decode cX2_init 41 = .ok (.newarray .int, 2) := by decide +kernel
theorem dX2_init_43 : decode cX2_init 43 = .ok (.putfield 37, 3) := by decide +kernel
theorem dX2_init_46 : decode cX2_init 46 = .ok (.aload_n 0, 1) := by decide +kernel
theorem dX2_init_47 : decode cX2_init 47 = .ok (.aload_n 1, 1) := by decide +kernel
theorem dX2_init_48 : decode cX2_init 48 = .ok (.getfield 32, 3) := by decide +kernel
theorem dX2_init_51 : decode cX2_init 51 = .ok (.newarray .int, 2) := by decide +kernel
theorem dX2_init_53 : decode cX2_init 53 = .ok (.putfield 41, 3) := by decide +kernel
theorem dX2_init_56 : decode cX2_init 56 = .ok (.aload_n 0, 1) := by decide +kernel
theorem dX2_init_57 : decode cX2_init 57 = .ok (.aload_n 1, 1) := by decide +kernel
theorem dX2_init_58 : decode cX2_init 58 = .ok (.getfield 32, 3) := by decide +kernel
theorem dX2_init_61 : decode cX2_init 61 = .ok (.newarray .int, 2) := by decide +kernel
theorem dX2_init_63 : decode cX2_init 63 = .ok (.putfield 44, 3) := by decide +kernel
theorem dX2_init_66 : decode cX2_init 66 = .ok (.aload_n 0, 1) := by decide +kernel
theorem dX2_init_67 : decode cX2_init 67 = .ok (.getfield 37, 3) := by decide +kernel
theorem dX2_init_70 : decode cX2_init 70 = .ok (.iconst (-1), 1) := by decide +kernel
theorem dX2_init_71 : decode cX2_init 71 = .ok (.invokestatic 47, 3) := by decide +kernel
theorem dX2_init_74 : decode cX2_init 74 = .ok (.aload_n 0, 1) := by decide +kernel
theorem dX2_init_75 : decode cX2_init 75 = .ok (.getfield 41, 3) := by decide +kernel
theorem dX2_init_78 : decode cX2_init 78 = .ok (.ldc 55, 2) := by decide +kernel
theorem dX2_init_80 : decode cX2_init 80 = .ok (.invokestatic 47, 3) := by decide +kernel
theorem dX2_init_83 : decode cX2_init 83 = .ok (.aload_n 0, 1) := by decide +kernel
theorem dX2_init_84 : decode cX2_init 84 = .ok (.getfield 44, 3) := by decide +kernel
theorem dX2_init_87 : decode cX2_init 87 = .ok (.ldc 56, 2) := by decide +kernel
theorem dX2_init_89 : decode cX2_init 89 = .ok (.invokestatic 47, 3) := by decide +kernel
theorem dX2_init_92 : decode cX2_init 92 = .ok (.return_, 1) := by decide +kernel
set_option maxRecDepth 20000 in
theorem ggX2_takesClass_X8_isBelow : GoodIn wsX2_takesClass wsX8_isBelow := goodIn_r _ [8, 9, 29, 30, 31, 32, 33] (by decide +kernel) (by decide +kernel)
set_option maxRecDepth 20000 in
theorem gX2_takesClass_X8_isBelow : GoodIn wsX2_takesClass (wsV RX2 61 RX8 yX8_isBelow wsX8_isBelow) := goodIn_app (goodIn_of _ (by decide +kernel)) ggX2_takesClass_X8_isBelow
theorem dX2_takesClass_0 : decode cX2_takesClass 0 = .ok (.aload_n 0, 1) := by decide +kernel
theorem dX2_takesClass_1 : decode cX2_takesClass 1 = .ok (.getfield 37, 3) := by decide +kernel
theorem dX2_takesClass_4 : decode cX2_takesClass 4 = .ok (.iload_n 1, 1) := by decide +kernel
theorem dX2_takesClass_5 : decode cX2_takesClass 5 = .ok (.iaload, 1) := by decide +kernel
theorem dX2_takesClass_6 : decode cX2_takesClass 6 = .ok (.iconst (-1), 1) := by decide +kernel
theorem dX2_takesClass_7 : decode cX2_takesClass 7 = .ok (.if_icmp .eq 23, 3) := by decide +kernel
theorem dX2_takesClass_10 : decode cX2_takesClass 10 = .ok (.aload_n 0, 1) := by decide +kernel
theorem dX2_takesClass_11 : decode cX2_takesClass 11 = .ok (.getfield 15, 3) := by decide +kernel
theorem dX2_takesClass_14 : decode cX2_takesClass 14 = .ok (.getfield 57, 3) := by decide +kernel
theorem dX2_takesClass_17 : decode cX2_takesClass 17 = .ok (.iload_n 2, 1) := by decide +kernel
theorem dX2_takesClass_18 : decode cX2_takesClass 18 = .ok (.aload_n 0, 1) := by decide +kernel
theorem dX2_takesClass_19 : decode cX2_takesClass 19 = .ok (.getfield 37, 3) := by decide +kernel
theorem dX2_takesClass_22 : decode cX2_takesClass 22 = .ok (.iload_n 1, 1) := by decide +kernel
theorem dX2_takesClass_23 : decode cX2_takesClass 23 = .ok (.iaload, 1) := by decide +kernel
theorem dX2_takesClass_24 : decode cX2_takesClass 24 = .ok (.invokevirtual 61, 3) := by decide +kernel
theorem dX2_takesClass_27 : decode cX2_takesClass 27 = .ok (.ifCond .eq 7, 3) := by decide +kernel
theorem dX2_takesClass_30 : decode cX2_takesClass 30 = .ok (.iconst 1, 1) := by decide +kernel
theorem dX2_takesClass_31 : decode cX2_takesClass 31 = .ok (.goto 4, 3) := by decide +kernel
theorem dX2_takesClass_34 : decode cX2_takesClass 34 = .ok (.iconst 0, 1) := by decide +kernel
theorem dX2_takesClass_35 : decode cX2_takesClass 35 = .ok (.ireturn, 1) := by decide +kernel
theorem dX2_takesWeight_0 : decode cX2_takesWeight 0 = .ok (.aload_n 0, 1) := by decide +kernel
theorem dX2_takesWeight_1 : decode cX2_takesWeight 1 = .ok (.getfield 41, 3) := by decide +kernel
theorem dX2_takesWeight_4 : decode cX2_takesWeight 4 = .ok (.iload_n 1, 1) := by decide +kernel
theorem dX2_takesWeight_5 : decode cX2_takesWeight 5 = .ok (.iaload, 1) := by decide +kernel
theorem dX2_takesWeight_6 : decode cX2_takesWeight 6 = .ok (.iload_n 2, 1) := by decide +kernel
theorem dX2_takesWeight_7 : decode cX2_takesWeight 7 = .ok (.if_icmp .gt 17, 3) := by decide +kernel
theorem dX2_takesWeight_10 : decode cX2_takesWeight 10 = .ok (.iload_n 2, 1) := by decide +kernel
theorem dX2_takesWeight_11 : decode cX2_takesWeight 11 = .ok (.aload_n 0, 1) := by decide +kernel
theorem dX2_takesWeight_12 : decode cX2_takesWeight 12 = .ok (.getfield 44, 3) := by decide +kernel
theorem dX2_takesWeight_15 : decode cX2_takesWeight 15 = .ok (.iload_n 1, 1) := by decide +kernel
theorem dX2_takesWeight_16 : decode cX2_takesWeight 16 = .ok (.iaload, 1) := by decide +kernel
theorem dX2_takesWeight_17 : decode cX2_takesWeight 17 = .ok (.if_icmp .gt 7, 3) := by decide +kernel
theorem dX2_takesWeight_20 : decode cX2_takesWeight 20 = .ok (.iconst 1, 1) := by decide +kernel
theorem dX2_takesWeight_21 : decode cX2_takesWeight 21 = .ok (.goto 4, 3) := by decide +kernel
theorem dX2_takesWeight_24 : decode cX2_takesWeight 24 = .ok (.iconst 0, 1) := by decide +kernel
theorem dX2_takesWeight_25 : decode cX2_takesWeight 25 = .ok (.ireturn, 1) := by decide +kernel
set_option maxRecDepth 20000 in
theorem ggX2_firstRefusingPlace_X2_takesClass : GoodIn wsX2_firstRefusingPlace wsX2_takesClass := goodIn_r _ [9, 10, 1, 11, 12, 13, 14, 15, 16, 17, 24, 25, 26, 27, 28, 29, 30, 31, 32, 33, 34, 35, 36, 37, 38, 39, 40, 41, 42, 46, 47, 48, 49, 50] (by decide +kernel) (by decide +kernel)
set_option maxRecDepth 20000 in
theorem gX2_firstRefusingPlace_X2_takesClass : GoodIn wsX2_firstRefusingPlace (wsV RX2 72 RX2 yX2_takesClass wsX2_takesClass) := goodIn_app (goodIn_of _ (by decide +kernel)) ggX2_firstRefusingPlace_X2_takesClass
set_option maxRecDepth 20000 in
theorem ggX2_firstRefusingPlace_X2_takesWeight : GoodIn wsX2_firstRefusingPlace wsX2_takesWeight := goodIn_r _ [21, 22, 23, 24, 25, 26, 27, 28, 29, 30, 31, 32] (by decide +kernel) (by decide +kernel)
set_option maxRecDepth 20000 in
theorem gX2_firstRefusingPlace_X2_takesWeight : GoodIn wsX2_firstRefusingPlace (wsV RX2 78 RX2 yX2_takesWeight wsX2_takesWeight) := goodIn_app (goodIn_of _ (by decide +kernel)) ggX2_firstRefusingPlace_X2_takesWeight
theorem dX2_firstRefusingPlace_0 : decode cX2_firstRefusingPlace 0 = .ok (.iconst 0, 1) := by decide +kernel
theorem dX2_firstRefusingPlace_1 : decode cX2_firstRefusingPlace 1 = .ok (.istore_n 2, 1) := by decide +kernel
theorem dX2_firstRefusingPlace_2 : decode cX2_firstRefusingPlace 2 = .ok (.iload_n 2, 1) := by decide +kernel
theorem dX2_firstRefusingPlace_3 : decode cX2_firstRefusingPlace 3 = .ok (.aload_n 0, 1) := by decide +kernel
theorem dX2_firstRefusingPlace_4 : decode cX2_firstRefusingPlace 4 = .ok (.getfield 15, 3) := by decide +kernel
theorem dX2_firstRefusingPlace_7 : decode cX2_firstRefusingPlace 7 = .ok (.getfield 32, 3) := by decide +kernel
theorem dX2_firstRefusingPlace_10 : decode cX2_firstRefusingPlace 10 = .ok (.if_icmp .ge 39, 3) := by decide +kernel
