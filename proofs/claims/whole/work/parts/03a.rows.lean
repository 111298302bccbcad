set_option maxRecDepth 20000 in
theorem ggX9_init_X8_init : GoodIn wsX9_init wsX8_init := goodIn_r _ [36, 37, 2, 3, 16, 38, 39, 40, 41, 42, 43, 44, 45, 46, 90, 91, 92, 93, 94] (by decide +kernel) (by decide +kernel)
set_option maxRecDepth 20000 in
theorem gX9_init_X8_init : GoodIn wsX9_init (wsX8_init) := ggX9_init_X8_init
set_option maxRecDepth 20000 in
theorem ggX9_init_X7_init : GoodIn wsX9_init wsX7_init := goodIn_r _ [48, 49, 2, 3, 16, 50, 51, 52, 107, 108, 109] (by decide +kernel) (by decide +kernel)
set_option maxRecDepth 20000 in
theorem gX9_init_X7_init_n18 : GoodIn wsX9_init (wsX7_init) := ggX9_init_X7_init
set_option maxRecDepth 20000 in
theorem ggX9_init_X6_init : GoodIn wsX9_init wsX6_init := goodIn_r _ [54, 55, 2, 3, 16, 56, 57, 58, 110, 111, 112] (by decide +kernel) (by decide +kernel)
set_option maxRecDepth 20000 in
theorem gX9_init_X6_init_n44 : GoodIn wsX9_init (wsX6_init) := ggX9_init_X6_init
set_option maxRecDepth 20000 in
theorem ggX9_init_X3_init : GoodIn wsX9_init wsX3_init := goodIn_r _ [60, 61, 2, 3, 16, 62, 63, 64, 65, 66, 67, 113, 114, 115, 116, 117, 118] (by decide +kernel) (by decide +kernel)
set_option maxRecDepth 20000 in
theorem gX9_init_X3_init_n51 : GoodIn wsX9_init (wsX3_init) := ggX9_init_X3_init
set_option maxRecDepth 20000 in
theorem ggX9_init_X5_init : GoodIn wsX9_init wsX5_init := goodIn_r _ [69, 70, 2, 3, 71, 72, 73, 74, 75, 76, 77, 78, 79, 80, 81, 82, 16, 83, 84, 85, 86, 87, 88, 89, 125, 126, 127, 128, 129, 130, 131, 119, 120, 121, 122, 123, 124] (by decide +kernel) (by decide +kernel)
set_option maxRecDepth 20000 in
theorem gX9_init_X5_init_n58 : GoodIn wsX9_init (wsX5_init) := ggX9_init_X5_init
theorem dX9_init_0 : decode cX9_init 0 = .ok (.aload_n 0, 1) := by decide +kernel
theorem dX9_init_1 : decode cX9_init 1 = .ok (.invokespecial 3, 3) := by decide +kernel
theorem dX9_init_4 : decode cX9_init 4 = .ok (.aload_n 0, 1) := by decide +kernel
theorem dX9_init_5 : decode cX9_init 5 = .ok (.new 9, 3) := by decide +kernel
theorem dX9_init_8 : decode cX9_init 8 = .ok (.dup, 1) := by decide +kernel
theorem dX9_init_9 : decode cX9_init 9 = .ok (.invokespecial 11, 3) := by decide +kernel
theorem dX9_init_12 : decode cX9_init 12 = .ok (.putfield 12, 3) := by decide +kernel
theorem dX9_init_15 : decode cX9_init 15 = .ok (.aload_n 0, 1) := by decide +kernel
theorem dX9_init_16 : decode cX9_init 16 = .ok (.new 16, 3) := by decide +kernel
theorem dX9_init_19 : decode cX9_init 19 = .ok (.dup, 1) := by decide +kernel
theorem dX9_init_20 : decode cX9_init 20 = .ok (.invokespecial 18, 3) := by decide +kernel
theorem dX9_init_23 : decode cX9_init 23 = .ok (.putfield 19, 3) := by decide +kernel
theorem dX9_init_26 : decode cX9_init 26 = .ok (.aload_n 0, 1) := by decide +kernel
theorem dX9_init_27 : decode cX9_init 27 = .ok (.iconst 4, 1) := by decide +kernel
theorem dX9_init_28 : decode cX9_init 28 = .ok (.anewarray 23, 3) := by decide +kernel
theorem dX9_init_31 : decode cX9_init 31 = .ok (.putfield 25, 3) := by decide +kernel
theorem dX9_init_34 : decode cX9_init 34 = .ok (.aload_n 0, 1) := by decide +kernel
theorem dX9_init_35 : decode cX9_init 35 = .ok (.bipush 40, 2) := by decide +kernel
theorem dX9_init_37 : decode cX9_init 37 = .ok (.anewarray 29, 3) := by decide +kernel
theorem dX9_init_40 : decode cX9_init 40 = .ok (.putfield 31, 3) := by decide +kernel
theorem dX9_init_43 : decode cX9_init 43 = .ok (.aload_n 0, 1) := by decide +kernel
theorem dX9_init_44 : decode cX9_init 44 = .ok (.iconst 2, 1) := by decide +kernel
theorem dX9_init_45 : decode cX9_init 45 = .ok (.newarray .int, 2) := by decide +kernel
theorem dX9_init_47 : decode cX9_init 47 = .ok (.dup, 1) := by decide +kernel
theorem dX9_init_48 : decode cX9_init 48 = .ok (.iconst 0, 1) := by decide +kernel
theorem dX9_init_49 : decode cX9_init 49 = .ok (.iconst (-1), 1) := by decide +kernel
theorem dX9_init_50 : decode cX9_init 50 = .ok (.iastore, 1) := by decide +kernel
theorem dX9_init_51 : decode cX9_init 51 = .ok (.dup, 1) := by decide +kernel
theorem dX9_init_52 : decode cX9_init 52 = .ok (.iconst 1, 1) := by decide +kernel
theorem dX9_init_53 : decode cX9_init 53 = .ok (.iconst (-1), 1) := by decide +kernel
theorem dX9_init_54 : decode cX9_init 54 = .ok (.iastore, 1) := by decide +kernel
theorem dX9_init_55 : decode cX9_init 55 = .ok (.putfield 35, 3) := by decide +kernel
theorem dX9_init_58 : decode cX9_init 58 = .ok (.aload_n 0, 1) := by decide +kernel
theorem dX9_init_59 : decode cX9_init 59 = .ok (.bipush 8, 2) := by decide +kernel
theorem dX9_init_61 : decode cX9_init 61 = .ok (.newarray .int, 2) := by decide +kernel
theorem dX9_init_63 : decode cX9_init 63 = .ok (.putfield 39, 3) := by decide +kernel
theorem dX9_init_66 : decode cX9_init 66 = .ok (.aload_n 0, 1) := by decide +kernel
theorem dX9_init_67 : decode cX9_init 67 = .ok (.new 42, 3) := by decide +kernel
theorem dX9_init_70 : decode cX9_init 70 = .ok (.dup, 1) := by decide +kernel
theorem dX9_init_71 : decode cX9_init 71 = .ok (.invokespecial 44, 3) := by decide +kernel
theorem dX9_init_74 : decode cX9_init 74 = .ok (.putfield 45, 3) := by decide +kernel
theorem dX9_init_77 : decode cX9_init 77 = .ok (.aload_n 0, 1) := by decide +kernel
theorem dX9_init_78 : decode cX9_init 78 = .ok (.new 49, 3) := by decide +kernel
theorem dX9_init_81 : decode cX9_init 81 = .ok (.dup, 1) := by decide +kernel
theorem dX9_init_82 : decode cX9_init 82 = .ok (.invokespecial 51, 3) := by decide +kernel
theorem dX9_init_85 : decode cX9_init 85 = .ok (.putfield 52, 3) := by decide +kernel
theorem dX9_init_88 : decode cX9_init 88 = .ok (.aload_n 0, 1) := by decide +kernel
theorem dX9_init_89 : decode cX9_init 89 = .ok (.new 56, 3) := by decide +kernel
theorem dX9_init_92 : decode cX9_init 92 = .ok (.dup, 1) := by decide +kernel
theorem dX9_init_93 : decode cX9_init 93 = .ok (.invokespecial 58, 3) := by decide +kernel
theorem dX9_init_96 : decode cX9_init 96 = .ok (.putfield 59, 3) := by decide +kernel
theorem dX9_init_99 : decode cX9_init 99 = .ok (.aload_n 0, 1) := by decide +kernel
theorem dX9_init_100 : decode cX9_init 100 = .ok (.iconst 0, 1) := by decide +kernel
theorem dX9_init_101 : decode cX9_init 101 = .ok (.putfield 63, 3) := by decide +kernel
theorem dX9_init_104 : decode cX9_init 104 = .ok (.aload_n 0, 1) := by decide +kernel
theorem dX9_init_105 : decode cX9_init 105 = .ok (.iconst 0, 1) := by decide +kernel
theorem dX9_init_106 : decode cX9_init 106 = .ok (.putfield 67, 3) := by decide +kernel
theorem dX9_init_109 : decode cX9_init 109 = .ok (.aload_n 0, 1) := by decide +kernel
theorem dX9_init_110 : decode cX9_init 110 = .ok (.iconst (-1), 1) := by decide +kernel
theorem dX9_init_111 : decode cX9_init 111 = .ok (.putfield 70, 3) := by decide +kernel
theorem dX9_init_114 : decode cX9_init 114 = .ok (.return_, 1) := by decide +kernel
set_option maxRecDepth 20000 in
theorem ggX9_parent_X9_isClass : GoodIn wsX9_parent wsX9_isClass := goodIn_r _ [7] (by decide +kernel) (by decide +kernel)
set_option maxRecDepth 20000 in
theorem gX9_parent_X9_isClass : GoodIn wsX9_parent (va_wsS RX9 73 yX9_isClass wsX9_isClass) := goodIn_app (goodIn_of _ (by decide +kernel)) ggX9_parent_X9_isClass
theorem dX9_parent_0 : decode cX9_parent 0 = .ok (.iload_n 1, 1) := by decide +kernel
theorem dX9_parent_1 : decode cX9_parent 1 = .ok (.invokestatic 73, 3) := by decide +kernel
theorem dX9_parent_4 : decode cX9_parent 4 = .ok (.ifCond .eq 15, 3) := by decide +kernel
theorem dX9_parent_7 : decode cX9_parent 7 = .ok (.iload_n 2, 1) := by decide +kernel
theorem dX9_parent_8 : decode cX9_parent 8 = .ok (.iconst (-1), 1) := by decide +kernel
theorem dX9_parent_9 : decode cX9_parent 9 = .ok (.if_icmp .eq 13, 3) := by decide +kernel
theorem dX9_parent_12 : decode cX9_parent 12 = .ok (.iload_n 2, 1) := by decide +kernel
theorem dX9_parent_13 : decode cX9_parent 13 = .ok (.invokestatic 73, 3) := by decide +kernel
theorem dX9_parent_16 : decode cX9_parent 16 = .ok (.ifCond .ne 6, 3) := by decide +kernel
theorem dX9_parent_19 : decode cX9_parent 19 = .ok (.bipush (-2), 2) := by decide +kernel
theorem dX9_parent_21 : decode cX9_parent 21 = .ok (.ireturn, 1) := by decide +kernel
theorem dX9_parent_22 : decode cX9_parent 22 = .ok (.aload_n 0, 1) := by decide +kernel
theorem dX9_parent_23 : decode cX9_parent 23 = .ok (.getfield 12, 3) := by decide +kernel
theorem dX9_parent_26 : decode cX9_parent 26 = .ok (.getfield 77, 3) := by decide +kernel
theorem dX9_parent_29 : decode cX9_parent 29 = .ok (.ifCond .eq 6, 3) := by decide +kernel
theorem dX9_parent_32 : decode cX9_parent 32 = .ok (.bipush (-3), 2) := by decide +kernel
theorem dX9_parent_34 : decode cX9_parent 34 = .ok (.ireturn, 1) := by decide +kernel
theorem dX9_parent_35 : decode cX9_parent 35 = .ok (.aload_n 0, 1) := by decide +kernel
theorem dX9_parent_36 : decode cX9_parent 36 = .ok (.getfield 12, 3) := by decide +kernel
theorem dX9_parent_39 : decode cX9_parent 39 = .ok (.getfield 81, 3) := by decide +kernel
theorem dX9_parent_42 : decode cX9_parent 42 = .ok (.iload_n 1, 1) := by decide +kernel
theorem dX9_parent_43 : decode cX9_parent 43 = .ok (.iload_n 2, 1) := by decide +kernel
theorem dX9_parent_44 : decode cX9_parent 44 = .ok (.iastore, 1) := by decide +kernel
theorem dX9_parent_45 : decode cX9_parent 45 = .ok (.iconst 1, 1) := by decide +kernel
theorem dX9_parent_46 : decode cX9_parent 46 = .ok (.ireturn, 1) := by decide +kernel
set_option maxRecDepth 20000 in
theorem ggX9_trait_X9_isTrait : GoodIn wsX9_trait wsX9_isTrait := goodIn_r _ [6] (by decide +kernel) (by decide +kernel)
set_option maxRecDepth 20000 in
theorem gX9_trait_X9_isTrait : GoodIn wsX9_trait (va_wsS RX9 84 yX9_isTrait wsX9_isTrait) := goodIn_app (goodIn_of _ (by decide +kernel)) ggX9_trait_X9_isTrait
set_option maxRecDepth 20000 in
theorem ggX9_trait_X8_addTrait : GoodIn wsX9_trait wsX8_addTrait := goodIn_r _ [11, 12, 25, 26, 27, 28, 29] (by decide +kernel) (by decide +kernel)
set_option maxRecDepth 20000 in
theorem gX9_trait_X8_addTrait : GoodIn wsX9_trait (wsV RX9 87 RX8 yX8_addTrait wsX8_addTrait) := goodIn_app (goodIn_of _ (by decide +kernel)) ggX9_trait_X8_addTrait
theorem dX9_trait_0 : decode cX9_trait 0 = .ok (.iload_n 1, 1) := by decide +kernel
theorem dX9_trait_1 : decode cX9_trait 1 = .ok (.invokestatic 84, 3) := by decide +kernel
theorem dX9_trait_4 : decode cX9_trait 4 = .ok (.ifCond .eq 10, 3) := by decide +kernel
theorem dX9_trait_7 : decode cX9_trait 7 = .ok (.iload_n 2, 1) := by decide +kernel
theorem dX9_trait_8 : decode cX9_trait 8 = .ok (.invokestatic 84, 3) := by decide +kernel
theorem dX9_trait_11 : decode cX9_trait 11 = .ok (.ifCond .ne 6, 3) := by decide +kernel
theorem dX9_trait_14 : decode cX9_trait 14 = .ok (.bipush (-2), 2) := by decide +kernel
theorem dX9_trait_16 : decode cX9_trait 16 = .ok (.ireturn, 1) := by decide +kernel
theorem dX9_trait_17 : decode cX9_trait 17 = .ok (.aload_n 0, 1) := by decide +kernel
theorem dX9_trait_18 : decode cX9_trait 18 = .ok (.getfield 12, 3) := by decide +kernel
theorem dX9_trait_21 : decode cX9_trait 21 = .ok (.getfield 77, 3) := by decide +kernel
theorem dX9_trait_24 : decode cX9_trait 24 = .ok (.ifCond .eq 8, 3) := by decide +kernel
theorem dX9_trait_27 : decode cX9_trait 27 = .ok (.bipush (-3), 2) := by decide +kernel
theorem dX9_trait_29 : decode cX9_trait 29 = .ok (.goto 12, 3) := by decide +kernel
theorem dX9_trait_32 : decode cX9_trait 32 = .ok (.aload_n 0, 1) := by decide +kernel
theorem dX9_trait_33 : decode cX9_trait 33 = .ok (.getfield 12, 3) := by decide +kernel
theorem dX9_trait_36 : decode cX9_trait 36 = .ok (.iload_n 1, 1) := by decide +kernel
theorem dX9_trait_37 : decode cX9_trait 37 = .ok (.iload_n 2, 1) := by decide +kernel
theorem dX9_trait_38 : decode cX9_trait 38 = .ok (.invokevirtual 87, 3) := by decide +kernel
theorem dX9_trait_41 : decode cX9_trait 41 = .ok (.ireturn, 1) := by decide +kernel
set_option maxRecDepth 20000 in
theorem ggX9_has_X9_isClass : GoodIn wsX9_has wsX9_isClass := goodIn_r _ [6] (by decide +kernel) (by decide +kernel)
set_option maxRecDepth 20000 in
theorem gX9_has_X9_isClass : GoodIn wsX9_has (va_wsS RX9 73 yX9_isClass wsX9_isClass) := goodIn_app (goodIn_of _ (by decide +kernel)) ggX9_has_X9_isClass
set_option maxRecDepth 20000 in
theorem ggX9_has_X9_isTrait : GoodIn wsX9_has wsX9_isTrait := goodIn_r _ [9] (by decide +kernel) (by decide +kernel)
set_option maxRecDepth 20000 in
theorem gX9_has_X9_isTrait : GoodIn wsX9_has (va_wsS RX9 84 yX9_isTrait wsX9_isTrait) := goodIn_app (goodIn_of _ (by decide +kernel)) ggX9_has_X9_isTrait
set_option maxRecDepth 20000 in
theorem ggX9_has_X8_addTrait : GoodIn wsX9_has wsX8_addTrait := goodIn_r _ [14, 15, 28, 29, 30, 31, 32] (by decide +kernel) (by decide +kernel)
set_option maxRecDepth 20000 in
theorem gX9_has_X8_addTrait : GoodIn wsX9_has (wsV RX9 87 RX8 yX8_addTrait wsX8_addTrait) := goodIn_app (goodIn_of _ (by decide +kernel)) ggX9_has_X8_addTrait
theorem dX9_has_0 : decode cX9_has 0 = .ok (.iload_n 1, 1) := by decide +kernel
theorem dX9_has_1 : decode cX9_has 1 = .ok (.invokestatic 73, 3) := by decide +kernel
theorem dX9_has_4 : decode cX9_has 4 = .ok (.ifCond .eq 10, 3) := by decide +kernel
theorem dX9_has_7 : decode cX9_has 7 = .ok (.iload_n 2, 1) := by decide +kernel
theorem dX9_has_8 : decode cX9_has 8 = .ok (.invokestatic 84, 3) := by decide +kernel
theorem dX9_has_11 : decode cX9_has 11 = .ok (.ifCond .ne 6, 3) := by decide +kernel
theorem dX9_has_14 : decode cX9_has 14 = .ok (.bipush (-2), 2) := by decide +kernel
theorem dX9_has_16 : decode cX9_has 16 = .ok (.ireturn, 1) := by decide +kernel
theorem dX9_has_17 : decode cX9_has 17 = .ok (.aload_n 0, 1) := by decide +kernel
theorem dX9_has_18 : decode cX9_has 18 = .ok (.getfield 12, 3) := by decide +kernel
theorem dX9_has_21 : decode cX9_has 21 = .ok (.getfield 77, 3) := by decide +kernel
theorem dX9_has_24 : decode cX9_has 24 = .ok (.ifCond .eq 8, 3) := by decide +kernel
theorem dX9_has_27 : decode cX9_has 27 = .ok (.bipush (-3), 2) := by decide +kernel
theorem dX9_has_29 : decode cX9_has 29 = .ok (.goto 12, 3) := by decide +kernel
theorem dX9_has_32 : decode cX9_has 32 = .ok (.aload_n 0, 1) := by decide +kernel
theorem dX9_has_33 : decode cX9_has 33 = .ok (.getfield 12, 3) := by decide +kernel
theorem dX9_has_36 : decode cX9_has 36 = .ok (.iload_n 1, 1) := by decide +kernel
theorem dX9_has_37 : decode cX9_has 37 = .ok (.iload_n 2, 1) := by decide +kernel
theorem dX9_has_38 : decode cX9_has 38 = .ok (.invokevirtual 87, 3) := by decide +kernel
theorem dX9_has_41 : decode cX9_has 41 = .ok (.ireturn, 1) := by decide +kernel
set_option maxRecDepth 20000 in
theorem ggX9_flag_X9_isClass : GoodIn wsX9_flag wsX9_isClass := goodIn_r _ [7] (by decide +kernel) (by decide +kernel)
set_option maxRecDepth 20000 in
theorem gX9_flag_X9_isClass : GoodIn wsX9_flag (va_wsS RX9 73 yX9_isClass wsX9_isClass) := goodIn_app (goodIn_of _ (by decide +kernel)) ggX9_flag_X9_isClass
set_option maxRecDepth 20000 in
theorem ggX9_flag_X8_isAbstract : GoodIn wsX9_flag wsX8_isAbstract := goodIn_r _ [12, 13, 26, 27, 28, 29, 30] (by decide +kernel) (by decide +kernel)
set_option maxRecDepth 20000 in
theorem gX9_flag_X8_isAbstract : GoodIn wsX9_flag (wsV RX9 91 RX8 yX8_isAbstract wsX8_isAbstract) := goodIn_app (goodIn_of _ (by decide +kernel)) ggX9_flag_X8_isAbstract
theorem dX9_flag_0 : decode cX9_flag 0 = .ok (.iload_n 1, 1) := by decide +kernel
theorem dX9_flag_1 : decode cX9_flag 1 = .ok (.invokestatic 73, 3) := by decide +kernel
theorem dX9_flag_4 : decode cX9_flag 4 = .ok (.ifCond .ne 6, 3) := by decide +kernel
theorem dX9_flag_7 : decode cX9_flag 7 = .ok (.bipush (-2), 2) := by decide +kernel
theorem dX9_flag_9 : decode cX9_flag 9 = .ok (.ireturn, 1) := by decide +kernel
theorem dX9_flag_10 : decode cX9_flag 10 = .ok (.aload_n 0, 1) := by decide +kernel
theorem dX9_flag_11 : decode cX9_flag 11 = .ok (.getfield 12, 3) := by decide +kernel
theorem dX9_flag_14 : decode cX9_flag 14 = .ok (.getfield 77, 3) := by decide +kernel
theorem dX9_flag_17 : decode cX9_flag 17 = .ok (.ifCond .eq 6, 3) := by decide +kernel
theorem dX9_flag_20 : decode cX9_flag 20 = .ok (.bipush (-3), 2) := by decide +kernel
theorem dX9_flag_22 : decode cX9_flag 22 = .ok (.ireturn, 1) := by decide +kernel
theorem dX9_flag_23 : decode cX9_flag 23 = .ok (.aload_n 0, 1) := by decide +kernel
theorem dX9_flag_24 : decode cX9_flag 24 = .ok (.getfield 12, 3) := by decide +kernel
theorem dX9_flag_27 : decode cX9_flag 27 = .ok (.iload_n 1, 1) := by decide +kernel
theorem dX9_flag_28 : decode cX9_flag 28 = .ok (.invokevirtual 91, 3) := by decide +kernel
theorem dX9_flag_31 : decode cX9_flag 31 = .ok (.ifCond .eq 5, 3) := by decide +kernel
theorem dX9_flag_34 : decode cX9_flag 34 = .ok (.iconst 0, 1) := by decide +kernel
theorem dX9_flag_35 : decode cX9_flag 35 = .ok (.ireturn, 1) := by decide +kernel
theorem dX9_flag_36 : decode cX9_flag 36 = .ok (.aload_n 0, 1) := by decide +kernel
theorem dX9_flag_37 : decode cX9_flag 37 = .ok (.getfield 12, 3) := by decide +kernel
theorem dX9_flag_40 : decode cX9_flag 40 = .ok (.dup, 1) := by decide +kernel
theorem dX9_flag_41 : decode cX9_flag 41 = .ok (.getfield 94, 3) := by decide +kernel
theorem dX9_flag_44 : decode cX9_flag 44 = .ok (.iconst 1, 1) := by decide +kernel
theorem dX9_flag_45 : decode cX9_flag 45 = .ok (.iload_n 1, 1) := by decide +kernel
theorem dX9_flag_46 : decode cX9_flag 46 = .ok (.ishl, 1) := by decide +kernel
theorem dX9_flag_47 : decode cX9_flag 47 = .ok (.ior, 1) := by decide +kernel
theorem dX9_flag_48 : decode cX9_flag 48 = .ok (.putfield 94, 3) := by decide +kernel
theorem dX9_flag_51 : decode cX9_flag 51 = .ok (.iconst 1, 1) := by decide +kernel
theorem dX9_flag_52 : decode cX9_flag 52 = .ok (.ireturn, 1) := by decide +kernel
set_option maxRecDepth 20000 in
theorem ggX9_close_X8_findReach : GoodIn wsX9_close wsX8_findReach := goodIn_r _ [7, 8, 9, 10, 27, 28, 29, 30, 31] (by decide +kernel) (by decide +kernel)
set_option maxRecDepth 20000 in
theorem gX9_close_X8_findReach : GoodIn wsX9_close (wsV RX9 97 RX8 yX8_findReach wsX8_findReach) := goodIn_app (goodIn_of _ (by decide +kernel)) ggX9_close_X8_findReach
set_option maxRecDepth 20000 in
theorem ggX9_close_X8_goesRound : GoodIn wsX9_close wsX8_goesRound := goodIn_r _ [14, 8, 27, 28, 29, 30, 31] (by decide +kernel) (by decide +kernel)
set_option maxRecDepth 20000 in
theorem gX9_close_X8_goesRound : GoodIn wsX9_close (wsV RX9 100 RX8 yX8_goesRound wsX8_goesRound) := goodIn_app (goodIn_of _ (by decide +kernel)) ggX9_close_X8_goesRound
theorem dX9_close_0 : decode cX9_close 0 = .ok (.aload_n 0, 1) := by decide +kernel
theorem dX9_close_1 : decode cX9_close 1 = .ok (.getfield 12, 3) := by decide +kernel
theorem dX9_close_4 : decode cX9_close 4 = .ok (.getfield 77, 3) := by decide +kernel
theorem dX9_close_7 : decode cX9_close 7 = .ok (.ifCond .eq 6, 3) := by decide +kernel
theorem dX9_close_10 : decode cX9_close 10 = .ok (.bipush (-3), 2) := by decide +kernel
theorem dX9_close_12 : decode cX9_close 12 = .ok (.ireturn, 1) := by decide +kernel
theorem dX9_close_13 : decode cX9_close 13 = .ok (.aload_n 0, 1) := by decide +kernel
theorem dX9_close_14 : decode cX9_close 14 = .ok (.getfield 12, 3) := by decide +kernel
theorem dX9_close_17 : decode cX9_close 17 = .ok (.invokevirtual 97, 3) := by decide +kernel
theorem dX9_close_20 : decode cX9_close 20 = .ok (.aload_n 0, 1) := by decide +kernel
theorem dX9_close_21 : decode cX9_close 21 = .ok (.getfield 12, 3) := by decide +kernel
theorem dX9_close_24 : decode cX9_close 24 = .ok (.invokevirtual 100, 3) := by decide +kernel
theorem dX9_close_27 : decode cX9_close 27 = .ok (.ifCond .eq 6, 3) := by decide +kernel
theorem dX9_close_30 : decode cX9_close 30 = .ok (.bipush (-5), 2) := by decide +kernel
theorem dX9_close_32 : decode cX9_close 32 = .ok (.ireturn, 1) := by decide +kernel
theorem dX9_close_33 : decode cX9_close 33 = .ok (.aload_n 0, 1) := by decide +kernel
theorem dX9_close_34 : decode cX9_close 34 = .ok (.getfield 12, 3) := by decide +kernel
theorem dX9_close_37 : decode cX9_close 37 = .ok (.iconst 1, 1) := by decide +kernel
theorem dX9_close_38 : decode cX9_close 38 = .ok (.putfield 77, 3) := by decide +kernel
theorem dX9_close_41 : decode cX9_close 41 = .ok (.iconst 1, 1) := by decide +kernel
theorem dX9_close_42 : decode cX9_close 42 = .ok (.ireturn, 1) := by decide +kernel
set_option maxRecDepth 20000 in
theorem ggX9_below_X9_isCode : GoodIn wsX9_below wsX9_isCode := goodIn_r _ [6] (by decide +kernel) (by decide +kernel)
set_option maxRecDepth 20000 in
theorem gX9_below_X9_isCode : GoodIn wsX9_below (va_wsS RX9 104 yX9_isCode wsX9_isCode) := goodIn_app (goodIn_of _ (by decide +kernel)) ggX9_below_X9_isCode
set_option maxRecDepth 20000 in
theorem ggX9_below_X8_isBelow : GoodIn wsX9_below wsX8_isBelow := goodIn_r _ [11, 12, 25, 26, 27, 28, 29] (by decide +kernel) (by decide +kernel)
set_option maxRecDepth 20000 in
theorem gX9_below_X8_isBelow : GoodIn wsX9_below (wsV RX9 107 RX8 yX8_isBelow wsX8_isBelow) := goodIn_app (goodIn_of _ (by decide +kernel)) ggX9_below_X8_isBelow
theorem dX9_below_0 : decode cX9_below 0 = .ok (.aload_n 0, 1) := by decide +kernel
theorem dX9_below_1 : decode cX9_below 1 = .ok (.getfield 12, 3) := by decide +kernel
theorem dX9_below_4 : decode cX9_below 4 = .ok (.getfield 77, 3) := by decide +kernel
theorem dX9_below_7 : decode cX9_below 7 = .ok (.ifCond .eq 33, 3) := by decide +kernel
theorem dX9_below_10 : decode cX9_below 10 = .ok (.iload_n 1, 1) := by decide +kernel
theorem dX9_below_11 : decode cX9_below 11 = .ok (.invokestatic 104, 3) := by decide +kernel
theorem dX9_below_14 : decode cX9_below 14 = .ok (.ifCond .eq 26, 3) := by decide +kernel
theorem dX9_below_17 : decode cX9_below 17 = .ok (.iload_n 2, 1) := by decide +kernel
theorem dX9_below_18 : decode cX9_below 18 = .ok (.invokestatic 104, 3) := by decide +kernel
theorem dX9_below_21 : decode cX9_below 21 = .ok (.ifCond .eq 19, 3) := by decide +kernel
theorem dX9_below_24 : decode cX9_below 24 = .ok (.aload_n 0, 1) := by decide +kernel
theorem dX9_below_25 : decode cX9_below 25 = .ok (.getfield 12, 3) := by decide +kernel
theorem dX9_below_28 : decode cX9_below 28 = .ok (.iload_n 1, 1) := by decide +kernel
theorem dX9_below_29 : decode cX9_below 29 = .ok (.iload_n 2, 1) := by decide +kernel
theorem dX9_below_30 : decode cX9_below 30 = .ok (.invokevirtual 107, 3) := by decide +kernel
theorem dX9_below_33 : decode cX9_below 33 = .ok (.ifCond .eq 7, 3) := by decide +kernel
theorem dX9_below_36 : decode cX9_below 36 = .ok (.iconst 1, 1) := by decide +kernel
theorem dX9_below_37 : decode cX9_below 37 = .ok (.goto 4, 3) := by decide +kernel
theorem dX9_below_40 : decode cX9_below 40 = .ok (.iconst 0, 1) := by decide +kernel
theorem dX9_below_41 : decode cX9_below 41 = .ok (.ireturn, 1) := by decide +kernel
set_option maxRecDepth 20000 in
theorem ggX9_sample_X9_isClass : GoodIn wsX9_sample wsX9_isClass := goodIn_r _ [7] (by decide +kernel) (by decide +kernel)
set_option maxRecDepth 20000 in
theorem gX9_sample_X9_isClass : GoodIn wsX9_sample (va_wsS RX9 73 yX9_isClass wsX9_isClass) := goodIn_app (goodIn_of _ (by decide +kernel)) ggX9_sample_X9_isClass
set_option maxRecDepth 20000 in
theorem ggX9_sample_X8_isAbstract : GoodIn wsX9_sample wsX8_isAbstract := goodIn_r _ [12, 13, 34, 35, 36, 37, 38] (by decide +kernel) (by decide +kernel)
set_option maxRecDepth 20000 in
theorem gX9_sample_X8_isAbstract : GoodIn wsX9_sample (wsV RX9 91 RX8 yX8_isAbstract wsX8_isAbstract) := goodIn_app (goodIn_of _ (by decide +kernel)) ggX9_sample_X8_isAbstract
set_option maxRecDepth 20000 in
theorem ggX9_sample_X7_bring : GoodIn wsX9_sample wsX7_bring := goodIn_r _ [18, 19, 20, 21, 39, 40, 41] (by decide +kernel) (by decide +kernel)
set_option maxRecDepth 20000 in
theorem gX9_sample_X7_bring : GoodIn wsX9_sample (wsV RX9 111 RX7 yX7_bring wsX7_bring) := goodIn_app (goodIn_of _ (by decide +kernel)) ggX9_sample_X7_bring
theorem dX9_sample_0 : decode cX9_sample 0 = .ok (.iload_n 1, 1) := by decide +kernel
theorem dX9_sample_1 : decode cX9_sample 1 = .ok (.invokestatic 73, 3) := by decide +kernel
theorem dX9_sample_4 : decode cX9_sample 4 = .ok (.ifCond .ne 6, 3) := by decide +kernel
theorem dX9_sample_7 : decode cX9_sample 7 = .ok (.bipush (-2), 2) := by decide +kernel
theorem dX9_sample_9 : decode cX9_sample 9 = .ok (.ireturn, 1) := by decide +kernel
theorem dX9_sample_10 : decode cX9_sample 10 = .ok (.aload_n 0, 1) := by decide +kernel
theorem dX9_sample_11 : decode cX9_sample 11 = .ok (.getfield 12, 3) := by decide +kernel
theorem dX9_sample_14 : decode cX9_sample 14 = .ok (.getfield 77, 3) := by decide +kernel
theorem dX9_sample_17 : decode cX9_sample 17 = .ok (.ifCond .ne 6, 3) := by decide +kernel
theorem dX9_sample_20 : decode cX9_sample 20 = .ok (.bipush (-3), 2) := by decide +kernel
theorem dX9_sample_22 : decode cX9_sample 22 = .ok (.ireturn, 1) := by decide +kernel
theorem dX9_sample_23 : decode cX9_sample 23 = .ok (.aload_n 0, 1) := by decide +kernel
theorem dX9_sample_24 : decode cX9_sample 24 = .ok (.getfield 12, 3) := by decide +kernel
theorem dX9_sample_27 : decode cX9_sample 27 = .ok (.iload_n 1, 1) := by decide +kernel
theorem dX9_sample_28 : decode cX9_sample 28 = .ok (.invokevirtual 91, 3) := by decide +kernel
theorem dX9_sample_31 : decode cX9_sample 31 = .ok (.ifCond .eq 6, 3) := by decide +kernel
theorem dX9_sample_34 : decode cX9_sample 34 = .ok (.bipush (-6), 2) := by decide +kernel
theorem dX9_sample_36 : decode cX9_sample 36 = .ok (.ireturn, 1) := by decide +kernel
theorem dX9_sample_37 : decode cX9_sample 37 = .ok (.aload_n 0, 1) := by decide +kernel
theorem dX9_sample_38 : decode cX9_sample 38 = .ok (.getfield 19, 3) := by decide +kernel
theorem dX9_sample_41 : decode cX9_sample 41 = .ok (.iload_n 1, 1) := by decide +kernel
theorem dX9_sample_42 : decode cX9_sample 42 = .ok (.iload_n 2, 1) := by decide +kernel
theorem dX9_sample_43 : decode cX9_sample 43 = .ok (.invokevirtual 111, 3) := by decide +kernel
theorem dX9_sample_46 : decode cX9_sample 46 = .ok (.istore_n 3, 1) := by decide +kernel
theorem dX9_sample_47 : decode cX9_sample 47 = .ok (.iload_n 3, 1) := by decide +kernel
theorem dX9_sample_48 : decode cX9_sample 48 = .ok (.iconst (-1), 1) := by decide +kernel
theorem dX9_sample_49 : decode cX9_sample 49 = .ok (.if_icmp .ne 8, 3) := by decide +kernel
theorem dX9_sample_52 : decode cX9_sample 52 = .ok (.bipush (-4), 2) := by decide +kernel
theorem dX9_sample_54 : decode cX9_sample 54 = .ok (.goto 4, 3) := by decide +kernel
theorem dX9_sample_57 : decode cX9_sample 57 = .ok (.iload_n 3, 1) := by decide +kernel
theorem dX9_sample_58 : decode cX9_sample 58 = .ok (.ireturn, 1) := by decide +kernel
set_option maxRecDepth 20000 in
theorem ggX9_of_X7_holds : GoodIn wsX9_of wsX7_holds := goodIn_r _ [8, 9, 22, 23, 24] (by decide +kernel) (by decide +kernel)
set_option maxRecDepth 20000 in
theorem gX9_of_X7_holds : GoodIn wsX9_of (wsV RX9 114 RX7 yX7_holds wsX7_holds) := goodIn_app (goodIn_of _ (by decide +kernel)) ggX9_of_X7_holds
theorem dX9_of_0 : decode cX9_of 0 = .ok (.aload_n 0, 1) := by decide +kernel
theorem dX9_of_1 : decode cX9_of 1 = .ok (.getfield 19, 3) := by decide +kernel
theorem dX9_of_4 : decode cX9_of 4 = .ok (.iload_n 1, 1) := by decide +kernel
theorem dX9_of_5 : decode cX9_of 5 = .ok (.invokevirtual 114, 3) := by decide +kernel
theorem dX9_of_8 : decode cX9_of 8 = .ok (.ifCond .ne 5, 3) := by decide +kernel
theorem dX9_of_11 : decode cX9_of 11 = .ok (.iconst (-1), 1) := by decide +kernel
theorem dX9_of_12 : decode cX9_of 12 = .ok (.ireturn, 1) := by decide +kernel
theorem dX9_of_13 : decode cX9_of 13 = .ok (.iload_n 2, 1) := by decide +kernel
theorem dX9_of_14 : decode cX9_of 14 = .ok (.lookupswitch 46 #[(0, 26), (1, 36)], 26) := by decide +kernel
theorem dX9_of_40 : decode cX9_of 40 = .ok (.aload_n 0, 1) := by decide +kernel
theorem dX9_of_41 : decode cX9_of 41 = .ok (.getfield 19, 3) := by decide +kernel
theorem dX9_of_44 : decode cX9_of 44 = .ok (.getfield 117, 3) := by decide +kernel
theorem dX9_of_47 : decode cX9_of 47 = .ok (.iload_n 1, 1) := by decide +kernel
theorem dX9_of_48 : decode cX9_of 48 = .ok (.iaload, 1) := by decide +kernel
theorem dX9_of_49 : decode cX9_of 49 = .ok (.ireturn, 1) := by decide +kernel
theorem dX9_of_50 : decode cX9_of 50 = .ok (.aload_n 0, 1) := by decide +kernel
theorem dX9_of_51 : decode cX9_of 51 = .ok (.getfield 19, 3) := by decide +kernel
theorem dX9_of_54 : decode cX9_of 54 = .ok (.getfield 120, 3) := by decide +kernel
theorem dX9_of_57 : decode cX9_of 57 = .ok (.iload_n 1, 1) := by decide +kernel
theorem dX9_of_58 : decode cX9_of 58 = .ok (.iaload, 1) := by decide +kernel
theorem dX9_of_59 : decode cX9_of 59 = .ok (.ireturn, 1) := by decide +kernel
theorem dX9_of_60 : decode cX9_of 60 = .ok (.iconst (-1), 1) := by decide +kernel
theorem dX9_of_61 : decode cX9_of 61 = .ok (.ireturn, 1) := by decide +kernel
theorem dX9_samples_0 : decode cX9_samples 0 = .ok (.aload_n 0, 1) := by decide +kernel
theorem dX9_samples_1 : decode cX9_samples 1 = .ok (.getfield 19, 3) := by decide +kernel
theorem dX9_samples_4 : decode cX9_samples 4 = .ok (.getfield 123, 3) := by decide +kernel
theorem dX9_samples_7 : decode cX9_samples 7 = .ok (.ireturn, 1) := by decide +kernel
set_option maxRecDepth 20000 in
theorem ggX9_function_X1_init : GoodIn wsX9_function wsX1_init := goodIn_r _ [10, 11, 12, 13, 14, 15, 16, 17, 18, 19, 20, 21, 22, 23, 24, 25, 26, 27, 28, 29, 30, 31, 32, 33, 34, 35, 36, 37, 38, 39, 67, 68, 69, 70, 71, 72, 73, 57, 58, 59, 60, 61, 62, 63, 64, 65, 66] (by decide +kernel) (by decide +kernel)
set_option maxRecDepth 20000 in
theorem gX9_function_X1_init : GoodIn wsX9_function (wsX1_init) := ggX9_function_X1_init
theorem dX9_function_0 : decode cX9_function 0 = .ok (.iload_n 1, 1) := by decide +kernel
theorem dX9_function_1 : decode cX9_function 1 = .ok (.iconst 1, 1) := by decide +kernel
theorem dX9_function_2 : decode cX9_function 2 = .ok (.if_icmp .lt 8, 3) := by decide +kernel
theorem dX9_function_5 : decode cX9_function 5 = .ok (.iload_n 1, 1) := by decide +kernel
theorem dX9_function_6 : decode cX9_function 6 = .ok (.iconst 2, 1) := by decide +kernel
theorem dX9_function_7 : decode cX9_function 7 = .ok (.if_icmp .le 6, 3) := by decide +kernel
theorem dX9_function_10 : decode cX9_function 10 = .ok (.bipush (-2), 2) := by decide +kernel
theorem dX9_function_12 : decode cX9_function 12 = .ok (.ireturn, 1) := by decide +kernel
theorem dX9_function_13 : decode cX9_function 13 = .ok (.aload_n 0, 1) := by decide +kernel
theorem dX9_function_14 : decode cX9_function 14 = .ok (.getfield 12, 3) := by decide +kernel
theorem dX9_function_17 : decode cX9_function 17 = .ok (.getfield 77, 3) := by decide +kernel
theorem dX9_function_20 : decode cX9_function 20 = .ok (.ifCond .ne 6, 3) := by decide +kernel
theorem dX9_function_23 : decode cX9_function 23 = .ok (.bipush (-3), 2) := by decide +kernel
theorem dX9_function_25 : decode cX9_function 25 = .ok (.ireturn, 1) := by decide +kernel
theorem dX9_function_26 : decode cX9_function 26 = .ok (.aload_n 0, 1) := by decide +kernel
theorem dX9_function_27 : decode cX9_function 27 = .ok (.getfield 63, 3) := by decide +kernel
theorem dX9_function_30 : decode cX9_function 30 = .ok (.iconst 4, 1) := by decide +kernel
theorem dX9_function_31 : decode cX9_function 31 = .ok (.if_icmp .lt 6, 3) := by decide +kernel
theorem dX9_function_34 : decode cX9_function 34 = .ok (.bipush (-4), 2) := by decide +kernel
theorem dX9_function_36 : decode cX9_function 36 = .ok (.ireturn, 1) := by decide +kernel
theorem dX9_function_37 : decode cX9_function 37 = .ok (.aload_n 0, 1) := by decide +kernel
theorem dX9_function_38 : decode cX9_function 38 = .ok (.getfield 25, 3) := by decide +kernel
theorem dX9_function_41 : decode cX9_function 41 = .ok (.aload_n 0, 1) := by decide +kernel
theorem dX9_function_42 : decode cX9_function 42 = .ok (.getfield 63, 3) := by decide +kernel
theorem dX9_function_45 : decode cX9_function 45 = .ok (.new 23, 3) := by decide +kernel
theorem dX9_function_48 : decode cX9_function 48 = .ok (.dup, 1) := by decide +kernel
theorem dX9_function_49 : decode cX9_function 49 = .ok (.aload_n 0, 1) := by decide +kernel
theorem dX9_function_50 : decode cX9_function 50 = .ok (.getfield 12, 3) := by decide +kernel
theorem dX9_function_53 : decode cX9_function 53 = .ok (.aload_n 0, 1) := by decide +kernel
theorem dX9_function_54 : decode cX9_function 54 = .ok (.getfield 63, 3) := by decide +kernel
theorem dX9_function_57 : decode cX9_function 57 = .ok (.iload_n 1, 1) := by decide +kernel
theorem dX9_function_58 : decode cX9_function 58 = .ok (.invokespecial 126, 3) := by decide +kernel
theorem dX9_function_61 : decode cX9_function 61 = .ok (.aastore, 1) := by decide +kernel
theorem dX9_function_62 : decode cX9_function 62 = .ok (.aload_n 0, 1) := by decide +kernel
theorem dX9_function_63 : decode cX9_function 63 = .ok (.dup, 1) := by decide +kernel
theorem dX9_function_64 : decode cX9_function 64 = .ok (.getfield 63, 3) := by decide +kernel
theorem dX9_function_67 : decode cX9_function 67 = .ok (.iconst 1, 1) := by decide +kernel
theorem dX9_function_68 : decode cX9_function 68 = .ok (.iadd, 1) := by decide +kernel
theorem dX9_function_69 : decode cX9_function 69 = .ok (.putfield 63, 3) := by decide +kernel
theorem dX9_function_72 : decode cX9_function 72 = .ok (.aload_n 0, 1) := by decide +kernel
theorem dX9_function_73 : decode cX9_function 73 = .ok (.getfield 63, 3) := by decide +kernel
theorem dX9_function_76 : decode cX9_function 76 = .ok (.iconst 1, 1) := by decide +kernel
theorem dX9_function_77 : decode cX9_function 77 = .ok (.isub, 1) := by decide +kernel
theorem dX9_function_78 : decode cX9_function 78 = .ok (.ireturn, 1) := by decide +kernel
set_option maxRecDepth 20000 in
theorem ggX9_handler_X9_functionAt : GoodIn wsX9_handler wsX9_functionAt := goodIn_r _ [10, 11, 12, 36, 37, 38, 39, 40, 41, 42, 43, 44, 45, 46, 47] (by decide +kernel) (by decide +kernel)
set_option maxRecDepth 20000 in
theorem gX9_handler_X9_functionAt : GoodIn wsX9_handler (wsV RX9 129 RX9 yX9_functionAt wsX9_functionAt) := goodIn_app (goodIn_of _ (by decide +kernel)) ggX9_handler_X9_functionAt
set_option maxRecDepth 20000 in
theorem ggX9_handler_X2_init : GoodIn wsX9_handler wsX2_init := goodIn_r _ [15, 16, 17, 18, 19, 20, 21, 22, 23, 24, 25, 26, 27, 28, 29, 30, 31, 32, 33, 34, 35, 48, 49, 50, 51, 52, 53, 54, 55, 56, 57, 58, 59, 60, 61, 62, 63, 64, 65, 66] (by decide +kernel) (by decide +kernel)
set_option maxRecDepth 20000 in
theorem gX9_handler_X2_init : GoodIn wsX9_handler (wsX2_init) := ggX9_handler_X2_init
theorem dX9_handler_0 : decode cX9_handler 0 = .ok (.aload_n 0, 1) := by decide +kernel
theorem dX9_handler_1 : decode cX9_handler 1 = .ok (.iload_n 1, 1) := by decide +kernel
theorem dX9_handler_2 : decode cX9_handler 2 = .ok (.invokevirtual 129, 3) := by decide +kernel
theorem dX9_handler_5 : decode cX9_handler 5 = .ok (.astore 5, 2) := by decide +kernel
theorem dX9_handler_7 : decode cX9_handler 7 = .ok (.aload 5, 2) := by decide +kernel
theorem dX9_handler_9 : decode cX9_handler 9 = .ok (.ifnull 13, 3) := by decide +kernel
theorem dX9_handler_12 : decode cX9_handler 12 = .ok (.iload_n 2, 1) := by decide +kernel
theorem dX9_handler_13 : decode cX9_handler 13 = .ok (.ifCond .lt 9, 3) := by decide +kernel
theorem dX9_handler_16 : decode cX9_handler 16 = .ok (.iload_n 2, 1) := by decide +kernel
theorem dX9_handler_17 : decode cX9_handler 17 = .ok (.bipush 7, 2) := by decide +kernel
theorem dX9_handler_19 : decode cX9_handler 19 = .ok (.if_icmp .le 6, 3) := by decide +kernel
theorem dX9_handler_22 : decode cX9_handler 22 = .ok (.bipush (-2), 2) := by decide +kernel
theorem dX9_handler_24 : decode cX9_handler 24 = .ok (.ireturn, 1) := by decide +kernel
theorem dX9_handler_25 : decode cX9_handler 25 = .ok (.aload_n 0, 1) := by decide +kernel
theorem dX9_handler_26 : decode cX9_handler 26 = .ok (.getfield 67, 3) := by decide +kernel
theorem dX9_handler_29 : decode cX9_handler 29 = .ok (.bipush 40, 2) := by decide +kernel
theorem dX9_handler_31 : decode cX9_handler 31 = .ok (.if_icmp .lt 6, 3) := by decide +kernel
theorem dX9_handler_34 : decode cX9_handler 34 = .ok (.bipush (-4), 2) := by decide +kernel
theorem dX9_handler_36 : decode cX9_handler 36 = .ok (.ireturn, 1) := by decide +kernel
theorem dX9_handler_37 : decode cX9_handler 37 = .ok (.aload_n 0, 1) := by decide +kernel
theorem dX9_handler_38 : decode cX9_handler 38 = .ok (.getfield 31, 3) := by decide +kernel
theorem dX9_handler_41 : decode cX9_handler 41 = .ok (.aload_n 0, 1) := by decide +kernel
theorem dX9_handler_42 : decode cX9_handler 42 = .ok (.getfield 67, 3) := by decide +kernel
theorem dX9_handler_45 : decode cX9_handler 45 = .ok (.new 29, 3) := by decide +kernel
theorem dX9_handler_48 : decode cX9_handler 48 = .ok (.dup, 1) := by decide +kernel
theorem dX9_handler_49 : decode cX9_handler 49 = .ok (.aload 5, 2) := by decide +kernel
theorem dX9_handler_51 : decode cX9_handler 51 = .ok (.aload_n 0, 1) := by decide +kernel
theorem dX9_handler_52 : decode cX9_handler 52 = .ok (.getfield 67, 3) := by decide +kernel
theorem dX9_handler_55 : decode cX9_handler 55 = .ok (.iload_n 2, 1) := by decide +kernel
theorem dX9_handler_56 : decode cX9_handler 56 = .ok (.iload_n 3, 1) := by decide +kernel
theorem dX9_handler_57 : decode cX9_handler 57 = .ok (.iload 4, 2) := by decide +kernel
theorem dX9_handler_59 : decode cX9_handler 59 = .ok (.invokespecial 133, 3) := by decide +kernel
theorem dX9_handler_62 : decode cX9_handler 62 = .ok (.aastore, 1) := by decide +kernel
theorem dX9_handler_63 : decode cX9_handler 63 = .ok (.aload_n 0, 1) := by decide +kernel
theorem dX9_handler_64 : decode cX9_handler 64 = .ok (.dup, 1) := by decide +kernel
theorem dX9_handler_65 : decode cX9_handler 65 = .ok (.getfield 67, 3) := by decide +kernel
theorem dX9_handler_68 : decode cX9_handler 68 = .ok (.iconst 1, 1) := by decide +kernel
theorem dX9_handler_69 : decode cX9_handler 69 = .ok (.iadd, 1) := by decide +kernel
theorem dX9_handler_70 : decode cX9_handler 70 = .ok (.putfield 67, 3) := by decide +kernel
theorem dX9_handler_73 : decode cX9_handler 73 = .ok (.aload_n 0, 1) := by decide +kernel
theorem dX9_handler_74 : decode cX9_handler 74 = .ok (.getfield 67, 3) := by decide +kernel
theorem dX9_handler_77 : decode cX9_handler 77 = .ok (.iconst 1, 1) := by decide +kernel
theorem dX9_handler_78 : decode cX9_handler 78 = .ok (.isub, 1) := by decide +kernel
theorem dX9_handler_79 : decode cX9_handler 79 = .ok (.ireturn, 1) := by decide +kernel
set_option maxRecDepth 20000 in
theorem ggX9_place_X9_handlerAt : GoodIn wsX9_place wsX9_handlerAt := goodIn_r _ [8, 9, 10, 29, 30, 31, 32, 33, 34, 35, 36, 37, 38, 39, 40] (by decide +kernel) (by decide +kernel)
set_option maxRecDepth 20000 in
theorem gX9_place_X9_handlerAt : GoodIn wsX9_place (wsV RX9 136 RX9 yX9_handlerAt wsX9_handlerAt) := goodIn_app (goodIn_of _ (by decide +kernel)) ggX9_place_X9_handlerAt
set_option maxRecDepth 20000 in
theorem ggX9_place_X1_hasPlace : GoodIn wsX9_place wsX1_hasPlace := goodIn_r _ [15, 16, 41, 42, 43, 44, 45, 46, 47, 48, 49, 50] (by decide +kernel) (by decide +kernel)
set_option maxRecDepth 20000 in
theorem gX9_place_X1_hasPlace : GoodIn wsX9_place (wsV RX9 144 RX1 yX1_hasPlace wsX1_hasPlace) := goodIn_app (goodIn_of _ (by decide +kernel)) ggX9_place_X1_hasPlace
set_option maxRecDepth 20000 in
theorem ggX9_place_X9_isCode : GoodIn wsX9_place wsX9_isCode := goodIn_r _ [19] (by decide +kernel) (by decide +kernel)
set_option maxRecDepth 20000 in
theorem gX9_place_X9_isCode : GoodIn wsX9_place (va_wsS RX9 104 yX9_isCode wsX9_isCode) := goodIn_app (goodIn_of _ (by decide +kernel)) ggX9_place_X9_isCode
theorem dX9_place_0 : decode cX9_place 0 = .ok (.aload_n 0, 1) := by decide +kernel
theorem dX9_place_1 : decode cX9_place 1 = .ok (.iload_n 1, 1) := by decide +kernel
theorem dX9_place_2 : decode cX9_place 2 = .ok (.invokevirtual 136, 3) := by decide +kernel
theorem dX9_place_5 : decode cX9_place 5 = .ok (.astore 4, 2) := by decide +kernel
theorem dX9_place_7 : decode cX9_place 7 = .ok (.aload 4, 2) := by decide +kernel
theorem dX9_place_9 : decode cX9_place 9 = .ok (.ifnull 27, 3) := by decide +kernel
theorem dX9_place_12 : decode cX9_place 12 = .ok (.aload 4, 2) := by decide +kernel
theorem dX9_place_14 : decode cX9_place 14 = .ok (.getfield 140, 3) := by decide +kernel
theorem dX9_place_17 : decode cX9_place 17 = .ok (.iload_n 2, 1) := by decide +kernel
theorem dX9_place_18 : decode cX9_place 18 = .ok (.invokevirtual 144, 3) := by decide +kernel
theorem dX9_place_21 : decode cX9_place 21 = .ok (.ifCond .eq 15, 3) := by decide +kernel
theorem dX9_place_24 : decode cX9_place 24 = .ok (.iload_n 3, 1) := by decide +kernel
theorem dX9_place_25 : decode cX9_place 25 = .ok (.iconst (-1), 1) := by decide +kernel
theorem dX9_place_26 : decode cX9_place 26 = .ok (.if_icmp .eq 13, 3) := by decide +kernel
theorem dX9_place_29 : decode cX9_place 29 = .ok (.iload_n 3, 1) := by decide +kernel
theorem dX9_place_30 : decode cX9_place 30 = .ok (.invokestatic 104, 3) := by decide +kernel
theorem dX9_place_33 : decode cX9_place 33 = .ok (.ifCond .ne 6, 3) := by decide +kernel
theorem dX9_place_36 : decode cX9_place 36 = .ok (.bipush (-2), 2) := by decide +kernel
theorem dX9_place_38 : decode cX9_place 38 = .ok (.ireturn, 1) := by decide +kernel
theorem dX9_place_39 : decode cX9_place 39 = .ok (.aload 4, 2) := by decide +kernel
theorem dX9_place_41 : decode cX9_place 41 = .ok (.getfield 147, 3) := by decide +kernel
theorem dX9_place_44 : decode cX9_place 44 = .ok (.ifCond .eq 6, 3) := by decide +kernel
theorem dX9_place_47 : decode cX9_place 47 = .ok (.bipush (-3), 2) := by decide +kernel
theorem dX9_place_49 : decode cX9_place 49 = .ok (.ireturn, 1) := by decide +kernel
theorem dX9_place_50 : decode cX9_place 50 = .ok (.aload 4, 2) := by decide +kernel
theorem dX9_place_52 : decode cX9_place 52 = .ok (.getfield 150, 3) := by decide +kernel
theorem dX9_place_55 : decode cX9_place 55 = .ok (.iload_n 2, 1) := by decide +kernel
theorem dX9_place_56 : decode cX9_place 56 = .ok (.iload_n 3, 1) := by decide +kernel
theorem dX9_place_57 : decode cX9_place 57 = .ok (.iastore, 1) := by decide +kernel
theorem dX9_place_58 : decode cX9_place 58 = .ok (.iconst 1, 1) := by decide +kernel
theorem dX9_place_59 : decode cX9_place 59 = .ok (.ireturn, 1) := by decide +kernel
set_option maxRecDepth 20000 in
theorem ggX9_test_X9_handlerAt : GoodIn wsX9_test wsX9_handlerAt := goodIn_r _ [9, 10, 11, 27, 28, 29, 30, 31, 32, 33, 34, 35, 36, 37, 38] (by decide +kernel) (by decide +kernel)
set_option maxRecDepth 20000 in
theorem gX9_test_X9_handlerAt : GoodIn wsX9_test (wsV RX9 136 RX9 yX9_handlerAt wsX9_handlerAt) := goodIn_app (goodIn_of _ (by decide +kernel)) ggX9_test_X9_handlerAt
set_option maxRecDepth 20000 in
theorem ggX9_test_X1_hasPlace : GoodIn wsX9_test wsX1_hasPlace := goodIn_r _ [16, 17, 39, 40, 41, 42, 43, 44, 45, 46, 47, 48] (by decide +kernel) (by decide +kernel)
set_option maxRecDepth 20000 in
theorem gX9_test_X1_hasPlace : GoodIn wsX9_test (wsV RX9 144 RX1 yX1_hasPlace wsX1_hasPlace) := goodIn_app (goodIn_of _ (by decide +kernel)) ggX9_test_X1_hasPlace
theorem dX9_test_0 : decode cX9_test 0 = .ok (.aload_n 0, 1) := by decide +kernel
theorem dX9_test_1 : decode cX9_test 1 = .ok (.iload_n 1, 1) := by decide +kernel
theorem dX9_test_2 : decode cX9_test 2 = .ok (.invokevirtual 136, 3) := by decide +kernel
theorem dX9_test_5 : decode cX9_test 5 = .ok (.astore 5, 2) := by decide +kernel
theorem dX9_test_7 : decode cX9_test 7 = .ok (.aload 5, 2) := by decide +kernel
theorem dX9_test_9 : decode cX9_test 9 = .ok (.ifnull 21, 3) := by decide +kernel
theorem dX9_test_12 : decode cX9_test 12 = .ok (.aload 5, 2) := by decide +kernel
theorem dX9_test_14 : decode cX9_test 14 = .ok (.getfield 140, 3) := by decide +kernel
theorem dX9_test_17 : decode cX9_test 17 = .ok (.iload_n 2, 1) := by decide +kernel
theorem dX9_test_18 : decode cX9_test 18 = .ok (.invokevirtual 144, 3) := by decide +kernel
theorem dX9_test_21 : decode cX9_test 21 = .ok (.ifCond .eq 9, 3) := by decide +kernel
theorem dX9_test_24 : decode cX9_test 24 = .ok (.iload_n 3, 1) := by decide +kernel
theorem dX9_test_25 : decode cX9_test 25 = .ok (.iload 4, 2) := by decide +kernel
theorem dX9_test_27 : decode cX9_test 27 = .ok (.if_icmp .le 6, 3) := by decide +kernel
theorem dX9_test_30 : decode cX9_test 30 = .ok (.bipush (-2), 2) := by decide +kernel
theorem dX9_test_32 : decode cX9_test 32 = .ok (.ireturn, 1) := by decide +kernel
theorem dX9_test_33 : decode cX9_test 33 = .ok (.aload 5, 2) := by decide +kernel
theorem dX9_test_35 : decode cX9_test 35 = .ok (.getfield 147, 3) := by decide +kernel
theorem dX9_test_38 : decode cX9_test 38 = .ok (.ifCond .eq 6, 3) := by decide +kernel
theorem dX9_test_41 : decode cX9_test 41 = .ok (.bipush (-3), 2) := by decide +kernel
theorem dX9_test_43 : decode cX9_test 43 = .ok (.ireturn, 1) := by decide +kernel
theorem dX9_test_44 : decode cX9_test 44 = .ok (.aload 5, 2) := by decide +kernel
theorem dX9_test_46 : decode cX9_test 46 = .ok (.getfield 153, 3) := by decide +kernel
theorem dX9_test_49 : decode cX9_test 49 = .ok (.iload_n 2, 1) := by decide +kernel
theorem dX9_test_50 : decode cX9_test 50 = .ok (.iload_n 3, 1) := by decide +kernel
theorem dX9_test_51 : decode cX9_test 51 = .ok (.iastore, 1) := by decide +kernel
theorem dX9_test_52 : decode cX9_test 52 = .ok (.aload 5, 2) := by decide +kernel
theorem dX9_test_54 : decode cX9_test 54 = .ok (.getfield 156, 3) := by decide +kernel
theorem dX9_test_57 : decode cX9_test 57 = .ok (.iload_n 2, 1) := by decide +kernel
theorem dX9_test_58 : decode cX9_test 58 = .ok (.iload 4, 2) := by decide +kernel
theorem dX9_test_60 : decode cX9_test 60 = .ok (.iastore, 1) := by decide +kernel
theorem dX9_test_61 : decode cX9_test 61 = .ok (.iconst 1, 1) := by decide +kernel
theorem dX9_test_62 : decode cX9_test 62 = .ok (.ireturn, 1) := by decide +kernel
set_option maxRecDepth 20000 in
theorem ggX9_lay_X9_handlerAt : GoodIn wsX9_lay wsX9_handlerAt := goodIn_r _ [8, 9, 10, 96, 97, 98, 99, 100, 101, 102, 103, 104, 105, 106, 107] (by decide +kernel) (by decide +kernel)
set_option maxRecDepth 20000 in
theorem gX9_lay_X9_handlerAt : GoodIn wsX9_lay (wsV RX9 136 RX9 yX9_handlerAt wsX9_handlerAt) := goodIn_app (goodIn_of _ (by decide +kernel)) ggX9_lay_X9_handlerAt
set_option maxRecDepth 20000 in
theorem ggX9_lay_X1_hasLaidSame : GoodIn wsX9_lay wsX1_hasLaidSame := goodIn_r _ [15, 16, 17, 18, 19, 20, 21, 22, 23, 24, 25, 26, 27, 28, 29, 30, 31, 32, 86, 87, 88, 89, 90, 91, 92, 93, 94, 95, 77, 78, 79, 80, 81, 82, 83, 84, 85] (by decide +kernel) (by decide +kernel)
set_option maxRecDepth 20000 in
theorem gX9_lay_X1_hasLaidSame : GoodIn wsX9_lay (wsV RX9 162 RX1 yX1_hasLaidSame wsX1_hasLaidSame) := goodIn_app (goodIn_of _ (by decide +kernel)) ggX9_lay_X1_hasLaidSame
set_option maxRecDepth 20000 in
theorem ggX9_lay_X1_putLaid : GoodIn wsX9_lay wsX1_putLaid := goodIn_r _ [36, 16, 17, 37, 38, 39, 40, 14, 41, 42, 43, 18, 44, 45, 46, 47, 22, 48, 24, 25, 49, 50, 51, 52, 30, 53, 31, 32, 54, 55, 56, 57, 58, 59, 26, 27, 28, 29, 60, 61, 62, 63, 64, 65, 66, 67, 68, 69, 7, 70, 71, 72, 73, 74, 75, 76, 86, 87, 88, 89, 90, 91, 92, 93, 94, 95, 77, 78, 79, 80, 81, 82, 83, 84, 85, 108, 109, 110, 111, 112, 113, 114, 115, 116, 117, 118, 119] (by decide +kernel) (by decide +kernel)
set_option maxRecDepth 20000 in
theorem gX9_lay_X1_putLaid : GoodIn wsX9_lay (wsV RX9 166 RX1 yX1_putLaid wsX1_putLaid) := goodIn_app (goodIn_of _ (by decide +kernel)) ggX9_lay_X1_putLaid
theorem dX9_lay_0 : decode cX9_lay 0 = .ok (.aload_n 0, 1) := by decide +kernel
theorem dX9_lay_1 : decode cX9_lay 1 = .ok (.iload_n 1, 1) := by decide +kernel
theorem dX9_lay_2 : decode cX9_lay 2 = .ok (.invokevirtual 136, 3) := by decide +kernel
theorem dX9_lay_5 : decode cX9_lay 5 = .ok (.astore_n 2, 1) := by decide +kernel
theorem dX9_lay_6 : decode cX9_lay 6 = .ok (.aload_n 2, 1) := by decide +kernel
theorem dX9_lay_7 : decode cX9_lay 7 = .ok (.ifnonnull 6, 3) := by decide +kernel
theorem dX9_lay_10 : decode cX9_lay 10 = .ok (.bipush (-2), 2) := by decide +kernel
theorem dX9_lay_12 : decode cX9_lay 12 = .ok (.ireturn, 1) := by decide +kernel
theorem dX9_lay_13 : decode cX9_lay 13 = .ok (.aload_n 2, 1) := by decide +kernel
theorem dX9_lay_14 : decode cX9_lay 14 = .ok (.getfield 140, 3) := by decide +kernel
theorem dX9_lay_17 : decode cX9_lay 17 = .ok (.astore_n 3, 1) := by decide +kernel
theorem dX9_lay_18 : decode cX9_lay 18 = .ok (.aload_n 2, 1) := by decide +kernel
theorem dX9_lay_19 : decode cX9_lay 19 = .ok (.getfield 147, 3) := by decide +kernel
theorem dX9_lay_22 : decode cX9_lay 22 = .ok (.ifCond .ne 10, 3) := by decide +kernel
theorem dX9_lay_25 : decode cX9_lay 25 = .ok (.aload_n 3, 1) := by decide +kernel
theorem dX9_lay_26 : decode cX9_lay 26 = .ok (.getfield 159, 3) := by decide +kernel
theorem dX9_lay_29 : decode cX9_lay 29 = .ok (.ifCond .eq 6, 3) := by decide +kernel
theorem dX9_lay_32 : decode cX9_lay 32 = .ok (.bipush (-3), 2) := by decide +kernel
theorem dX9_lay_34 : decode cX9_lay 34 = .ok (.ireturn, 1) := by decide +kernel
theorem dX9_lay_35 : decode cX9_lay 35 = .ok (.aload_n 3, 1) := by decide +kernel
theorem dX9_lay_36 : decode cX9_lay 36 = .ok (.aload_n 2, 1) := by decide +kernel
theorem dX9_lay_37 : decode cX9_lay 37 = .ok (.invokevirtual 162, 3) := by decide +kernel
theorem dX9_lay_40 : decode cX9_lay 40 = .ok (.ifCond .eq 6, 3) := by decide +kernel
theorem dX9_lay_43 : decode cX9_lay 43 = .ok (.bipush (-5), 2) := by decide +kernel
theorem dX9_lay_45 : decode cX9_lay 45 = .ok (.ireturn, 1) := by decide +kernel
theorem dX9_lay_46 : decode cX9_lay 46 = .ok (.aload_n 3, 1) := by decide +kernel
theorem dX9_lay_47 : decode cX9_lay 47 = .ok (.aload_n 2, 1) := by decide +kernel
theorem dX9_lay_48 : decode cX9_lay 48 = .ok (.invokevirtual 166, 3) := by decide +kernel
theorem dX9_lay_51 : decode cX9_lay 51 = .ok (.ifCond .ne 6, 3) := by decide +kernel
theorem dX9_lay_54 : decode cX9_lay 54 = .ok (.bipush (-4), 2) := by decide +kernel
theorem dX9_lay_56 : decode cX9_lay 56 = .ok (.ireturn, 1) := by decide +kernel
theorem dX9_lay_57 : decode cX9_lay 57 = .ok (.aload_n 2, 1) := by decide +kernel
theorem dX9_lay_58 : decode cX9_lay 58 = .ok (.iconst 1, 1) := by decide +kernel
theorem dX9_lay_59 : decode cX9_lay 59 = .ok (.putfield 147, 3) := by decide +kernel
theorem dX9_lay_62 : decode cX9_lay 62 = .ok (.iconst 1, 1) := by decide +kernel
theorem dX9_lay_63 : decode cX9_lay 63 = .ok (.ireturn, 1) := by decide +kernel
set_option maxRecDepth 20000 in
theorem ggX9_lift_X9_handlerAt : GoodIn wsX9_lift wsX9_handlerAt := goodIn_r _ [8, 9, 10, 88, 89, 90, 91, 92, 93, 94, 95, 96, 97, 98, 99] (by decide +kernel) (by decide +kernel)
set_option maxRecDepth 20000 in
theorem gX9_lift_X9_handlerAt : GoodIn wsX9_lift (wsV RX9 136 RX9 yX9_handlerAt wsX9_handlerAt) := goodIn_app (goodIn_of _ (by decide +kernel)) ggX9_lift_X9_handlerAt
set_option maxRecDepth 20000 in
theorem ggX9_lift_X1_dropLaid : GoodIn wsX9_lift wsX1_dropLaid := goodIn_r _ [15, 16, 17, 18, 19, 20, 21, 14, 22, 23, 24, 25, 26, 27, 28, 29, 30, 31, 32, 33, 34, 35, 36, 37, 38, 39, 40, 41, 42, 43, 44, 45, 46, 47, 48, 49, 50, 51, 52, 53, 54, 55, 56, 57, 58, 59, 60, 61, 7, 62, 63, 64, 65, 66, 67, 68, 78, 79, 80, 81, 82, 83, 84, 85, 86, 87, 69, 70, 71, 72, 73, 74, 75, 76, 77, 100, 101, 102, 103, 104, 105, 106, 107, 108, 109, 110, 111] (by decide +kernel) (by decide +kernel)
set_option maxRecDepth 20000 in
theorem gX9_lift_X1_dropLaid : GoodIn wsX9_lift (wsV RX9 169 RX1 yX1_dropLaid wsX1_dropLaid) := goodIn_app (goodIn_of _ (by decide +kernel)) ggX9_lift_X1_dropLaid
theorem dX9_lift_0 : decode cX9_lift 0 = .ok (.aload_n 0, 1) := by decide +kernel
theorem dX9_lift_1 : decode cX9_lift 1 = .ok (.iload_n 1, 1) := by decide +kernel
theorem dX9_lift_2 : decode cX9_lift 2 = .ok (.invokevirtual 136, 3) := by decide +kernel
theorem dX9_lift_5 : decode cX9_lift 5 = .ok (.astore_n 2, 1) := by decide +kernel
theorem dX9_lift_6 : decode cX9_lift 6 = .ok (.aload_n 2, 1) := by decide +kernel
theorem dX9_lift_7 : decode cX9_lift 7 = .ok (.ifnonnull 6, 3) := by decide +kernel
theorem dX9_lift_10 : decode cX9_lift 10 = .ok (.bipush (-2), 2) := by decide +kernel
theorem dX9_lift_12 : decode cX9_lift 12 = .ok (.ireturn, 1) := by decide +kernel
theorem dX9_lift_13 : decode cX9_lift 13 = .ok (.aload_n 2, 1) := by decide +kernel
theorem dX9_lift_14 : decode cX9_lift 14 = .ok (.getfield 147, 3) := by decide +kernel
theorem dX9_lift_17 : decode cX9_lift 17 = .ok (.iconst 1, 1) := by decide +kernel
theorem dX9_lift_18 : decode cX9_lift 18 = .ok (.if_icmp .ne 13, 3) := by decide +kernel
theorem dX9_lift_21 : decode cX9_lift 21 = .ok (.aload_n 2, 1) := by decide +kernel
theorem dX9_lift_22 : decode cX9_lift 22 = .ok (.getfield 140, 3) := by decide +kernel
theorem dX9_lift_25 : decode cX9_lift 25 = .ok (.getfield 159, 3) := by decide +kernel
theorem dX9_lift_28 : decode cX9_lift 28 = .ok (.ifCond .eq 6, 3) := by decide +kernel
theorem dX9_lift_31 : decode cX9_lift 31 = .ok (.bipush (-3), 2) := by decide +kernel
theorem dX9_lift_33 : decode cX9_lift 33 = .ok (.ireturn, 1) := by decide +kernel
theorem dX9_lift_34 : decode cX9_lift 34 = .ok (.aload_n 2, 1) := by decide +kernel
theorem dX9_lift_35 : decode cX9_lift 35 = .ok (.iconst 2, 1) := by decide +kernel
theorem dX9_lift_36 : decode cX9_lift 36 = .ok (.putfield 147, 3) := by decide +kernel
theorem dX9_lift_39 : decode cX9_lift 39 = .ok (.aload_n 2, 1) := by decide +kernel
theorem dX9_lift_40 : decode cX9_lift 40 = .ok (.getfield 140, 3) := by decide +kernel
theorem dX9_lift_43 : decode cX9_lift 43 = .ok (.aload_n 2, 1) := by decide +kernel
theorem dX9_lift_44 : decode cX9_lift 44 = .ok (.invokevirtual 169, 3) := by decide +kernel
theorem dX9_lift_47 : decode cX9_lift 47 = .ok (.iconst 1, 1) := by decide +kernel
theorem dX9_lift_48 : decode cX9_lift 48 = .ok (.ireturn, 1) := by decide +kernel
set_option maxRecDepth 20000 in
theorem ggX9_freeze_X9_functionAt : GoodIn wsX9_freeze wsX9_functionAt := goodIn_r _ [6, 7, 8, 19, 20, 21, 22, 23, 24, 25, 26, 27, 28, 29, 30] (by decide +kernel) (by decide +kernel)
set_option maxRecDepth 20000 in
theorem gX9_freeze_X9_functionAt : GoodIn wsX9_freeze (wsV RX9 129 RX9 yX9_functionAt wsX9_functionAt) := goodIn_app (goodIn_of _ (by decide +kernel)) ggX9_freeze_X9_functionAt
theorem dX9_freeze_0 : decode cX9_freeze 0 = .ok (.aload_n 0, 1) := by decide +kernel
theorem dX9_freeze_1 : decode cX9_freeze 1 = .ok (.iload_n 1, 1) := by decide +kernel
theorem dX9_freeze_2 : decode cX9_freeze 2 = .ok (.invokevirtual 129, 3) := by decide +kernel
theorem dX9_freeze_5 : decode cX9_freeze 5 = .ok (.astore_n 3, 1) := by decide +kernel
theorem dX9_freeze_6 : decode cX9_freeze 6 = .ok (.aload_n 3, 1) := by decide +kernel
theorem dX9_freeze_7 : decode cX9_freeze 7 = .ok (.ifnonnull 6, 3) := by decide +kernel
theorem dX9_freeze_10 : decode cX9_freeze 10 = .ok (.bipush (-2), 2) := by decide +kernel
theorem dX9_freeze_12 : decode cX9_freeze 12 = .ok (.ireturn, 1) := by decide +kernel
theorem dX9_freeze_13 : decode cX9_freeze 13 = .ok (.aload_n 3, 1) := by decide +kernel
theorem dX9_freeze_14 : decode cX9_freeze 14 = .ok (.getfield 159, 3) := by decide +kernel
theorem dX9_freeze_17 : decode cX9_freeze 17 = .ok (.iload_n 2, 1) := by decide +kernel
theorem dX9_freeze_18 : decode cX9_freeze 18 = .ok (.if_icmp .ne 5, 3) := by decide +kernel
theorem dX9_freeze_21 : decode cX9_freeze 21 = .ok (.iconst 0, 1) := by decide +kernel
theorem dX9_freeze_22 : decode cX9_freeze 22 = .ok (.ireturn, 1) := by decide +kernel
theorem dX9_freeze_23 : decode cX9_freeze 23 = .ok (.aload_n 3, 1) := by decide +kernel
theorem dX9_freeze_24 : decode cX9_freeze 24 = .ok (.iload_n 2, 1) := by decide +kernel
theorem dX9_freeze_25 : decode cX9_freeze 25 = .ok (.putfield 159, 3) := by decide +kernel
theorem dX9_freeze_28 : decode cX9_freeze 28 = .ok (.iconst 1, 1) := by decide +kernel
theorem dX9_freeze_29 : decode cX9_freeze 29 = .ok (.ireturn, 1) := by decide +kernel
set_option maxRecDepth 20000 in
theorem ggX9_about_X9_handlerAt : GoodIn wsX9_about wsX9_handlerAt := goodIn_r _ [14, 15, 16, 39, 40, 41, 42, 43, 44, 45, 46, 47, 48, 49, 50] (by decide +kernel) (by decide +kernel)
set_option maxRecDepth 20000 in
theorem gX9_about_X9_handlerAt : GoodIn wsX9_about (wsV RX9 136 RX9 yX9_handlerAt wsX9_handlerAt) := goodIn_app (goodIn_of _ (by decide +kernel)) ggX9_about_X9_handlerAt
set_option maxRecDepth 20000 in
theorem ggX9_about_X9_elementOrZero : GoodIn wsX9_about wsX9_elementOrZero := goodIn_r _ [19] (by decide +kernel) (by decide +kernel)
set_option maxRecDepth 20000 in
theorem gX9_about_X9_elementOrZero : GoodIn wsX9_about (va_wsS RX9 185 yX9_elementOrZero wsX9_elementOrZero) := goodIn_app (goodIn_of _ (by decide +kernel)) ggX9_about_X9_elementOrZero
theorem dX9_about_0 : decode cX9_about 0 = .ok (.aload_n 0, 1) := by decide +kernel
theorem dX9_about_1 : decode cX9_about 1 = .ok (.iload_n 1, 1) := by decide +kernel
theorem dX9_about_2 : decode cX9_about 2 = .ok (.invokevirtual 136, 3) := by decide +kernel
theorem dX9_about_5 : decode cX9_about 5 = .ok (.astore_n 3, 1) := by decide +kernel
theorem dX9_about_6 : decode cX9_about 6 = .ok (.aload_n 3, 1) := by decide +kernel
theorem dX9_about_7 : decode cX9_about 7 = .ok (.ifnonnull 6, 3) := by decide +kernel
theorem dX9_about_10 : decode cX9_about 10 = .ok (.bipush (-2), 2) := by decide +kernel
theorem dX9_about_12 : decode cX9_about 12 = .ok (.ireturn, 1) := by decide +kernel
theorem dX9_about_13 : decode cX9_about 13 = .ok (.iload_n 2, 1) := by decide +kernel
theorem dX9_about_14 : decode cX9_about 14 = .ok (.tableswitch 129 0 10 #[58, 66, 71, 76, 89, 94, 94, 105, 105, 117, 117], 58) := by decide +kernel
theorem dX9_about_72 : decode cX9_about 72 = .ok (.aload_n 3, 1) := by decide +kernel
theorem dX9_about_73 : decode cX9_about 73 = .ok (.getfield 140, 3) := by decide +kernel
theorem dX9_about_76 : decode cX9_about 76 = .ok (.getfield 173, 3) := by decide +kernel
theorem dX9_about_79 : decode cX9_about 79 = .ok (.ireturn, 1) := by decide +kernel
theorem dX9_about_80 : decode cX9_about 80 = .ok (.aload_n 3, 1) := by decide +kernel
theorem dX9_about_81 : decode cX9_about 81 = .ok (.getfield 176, 3) := by decide +kernel
theorem dX9_about_84 : decode cX9_about 84 = .ok (.ireturn, 1) := by decide +kernel
theorem dX9_about_85 : decode cX9_about 85 = .ok (.aload_n 3, 1) := by decide +kernel
theorem dX9_about_86 : decode cX9_about 86 = .ok (.getfield 179, 3) := by decide +kernel
theorem dX9_about_89 : decode cX9_about 89 = .ok (.ireturn, 1) := by decide +kernel
theorem dX9_about_90 : decode cX9_about 90 = .ok (.aload_n 3, 1) := by decide +kernel
theorem dX9_about_91 : decode cX9_about 91 = .ok (.getfield 182, 3) := by decide +kernel
theorem dX9_about_94 : decode cX9_about 94 = .ok (.ifCond .eq 7, 3) := by decide +kernel
theorem dX9_about_97 : decode cX9_about 97 = .ok (.iconst 1, 1) := by decide +kernel
theorem dX9_about_98 : decode cX9_about 98 = .ok (.goto 4, 3) := by decide +kernel
theorem dX9_about_101 : decode cX9_about 101 = .ok (.iconst 0, 1) := by decide +kernel
theorem dX9_about_102 : decode cX9_about 102 = .ok (.ireturn, 1) := by decide +kernel
theorem dX9_about_103 : decode cX9_about 103 = .ok (.aload_n 3, 1) := by decide +kernel
theorem dX9_about_104 : decode cX9_about 104 = .ok (.getfield 147, 3) := by decide +kernel
theorem dX9_about_107 : decode cX9_about 107 = .ok (.ireturn, 1) := by decide +kernel
theorem dX9_about_108 : decode cX9_about 108 = .ok (.aload_n 3, 1) := by decide +kernel
theorem dX9_about_109 : decode cX9_about 109 = .ok (.getfield 150, 3) := by decide +kernel
theorem dX9_about_112 : decode cX9_about 112 = .ok (.iload_n 2, 1) := by decide +kernel
theorem dX9_about_113 : decode cX9_about 113 = .ok (.iconst 5, 1) := by decide +kernel
theorem dX9_about_114 : decode cX9_about 114 = .ok (.isub, 1) := by decide +kernel
theorem dX9_about_115 : decode cX9_about 115 = .ok (.invokestatic 185, 3) := by decide +kernel
theorem dX9_about_118 : decode cX9_about 118 = .ok (.ireturn, 1) := by decide +kernel
theorem dX9_about_119 : decode cX9_about 119 = .ok (.aload_n 3, 1) := by decide +kernel
theorem dX9_about_120 : decode cX9_about 120 = .ok (.getfield 153, 3) := by decide +kernel
theorem dX9_about_123 : decode cX9_about 123 = .ok (.iload_n 2, 1) := by decide +kernel
theorem dX9_about_124 : decode cX9_about 124 = .ok (.bipush 7, 2) := by decide +kernel
theorem dX9_about_126 : decode cX9_about 126 = .ok (.isub, 1) := by decide +kernel
theorem dX9_about_127 : decode cX9_about 127 = .ok (.invokestatic 185, 3) := by decide +kernel
theorem dX9_about_130 : decode cX9_about 130 = .ok (.ireturn, 1) := by decide +kernel
theorem dX9_about_131 : decode cX9_about 131 = .ok (.aload_n 3, 1) := by decide +kernel
theorem dX9_about_132 : decode cX9_about 132 = .ok (.getfield 156, 3) := by decide +kernel
theorem dX9_about_135 : decode cX9_about 135 = .ok (.iload_n 2, 1) := by decide +kernel
theorem dX9_about_136 : decode cX9_about 136 = .ok (.bipush 9, 2) := by decide +kernel
theorem dX9_about_138 : decode cX9_about 138 = .ok (.isub, 1) := by decide +kernel
theorem dX9_about_139 : decode cX9_about 139 = .ok (.invokestatic 185, 3) := by decide +kernel
theorem dX9_about_142 : decode cX9_about 142 = .ok (.ireturn, 1) := by decide +kernel
theorem dX9_about_143 : decode cX9_about 143 = .ok (.bipush (-2), 2) := by decide +kernel
theorem dX9_about_145 : decode cX9_about 145 = .ok (.ireturn, 1) := by decide +kernel
set_option maxRecDepth 20000 in
theorem ggX9_dominates_X9_handlerAt : GoodIn wsX9_dominates wsX9_handlerAt := goodIn_r _ [7, 8, 9, 54, 55, 56, 57, 58, 59, 60, 61, 62, 63, 64, 65] (by decide +kernel) (by decide +kernel)
set_option maxRecDepth 20000 in
theorem gX9_dominates_X9_handlerAt : GoodIn wsX9_dominates (wsV RX9 136 RX9 yX9_handlerAt wsX9_handlerAt) := goodIn_app (goodIn_of _ (by decide +kernel)) ggX9_dominates_X9_handlerAt
set_option maxRecDepth 20000 in
theorem ggX9_dominates_X2_isMoreSpecific : GoodIn wsX9_dominates wsX2_isMoreSpecific := goodIn_r _ [14, 15, 16, 17, 18, 19, 13, 20, 21, 22, 23, 24, 25, 26, 27, 28, 29, 30, 31, 32, 33, 34, 35, 36, 37, 38, 39, 40, 41, 42, 43, 44, 45, 46, 47, 48, 49, 50, 51, 52, 53, 66, 67, 68, 69, 70] (by decide +kernel) (by decide +kernel)
set_option maxRecDepth 20000 in
theorem gX9_dominates_X2_isMoreSpecific : GoodIn wsX9_dominates (wsV RX9 189 RX2 yX2_isMoreSpecific wsX2_isMoreSpecific) := goodIn_app (goodIn_of _ (by decide +kernel)) ggX9_dominates_X2_isMoreSpecific
theorem dX9_dominates_0 : decode cX9_dominates 0 = .ok (.aload_n 0, 1) := by decide +kernel
theorem dX9_dominates_1 : decode cX9_dominates 1 = .ok (.iload_n 1, 1) := by decide +kernel
theorem dX9_dominates_2 : decode cX9_dominates 2 = .ok (.invokevirtual 136, 3) := by decide +kernel
theorem dX9_dominates_5 : decode cX9_dominates 5 = .ok (.astore_n 3, 1) := by decide +kernel
theorem dX9_dominates_6 : decode cX9_dominates 6 = .ok (.aload_n 0, 1) := by decide +kernel
theorem dX9_dominates_7 : decode cX9_dominates 7 = .ok (.iload_n 2, 1) := by decide +kernel
theorem dX9_dominates_8 : decode cX9_dominates 8 = .ok (.invokevirtual 136, 3) := by decide +kernel
theorem dX9_dominates_11 : decode cX9_dominates 11 = .ok (.astore 4, 2) := by decide +kernel
theorem dX9_dominates_13 : decode cX9_dominates 13 = .ok (.aload_n 3, 1) := by decide +kernel
theorem dX9_dominates_14 : decode cX9_dominates 14 = .ok (.ifnull 39, 3) := by decide +kernel
theorem dX9_dominates_17 : decode cX9_dominates 17 = .ok (.aload 4, 2) := by decide +kernel
theorem dX9_dominates_19 : decode cX9_dominates 19 = .ok (.ifnull 34, 3) := by decide +kernel
theorem dX9_dominates_22 : decode cX9_dominates 22 = .ok (.aload_n 3, 1) := by decide +kernel
theorem dX9_dominates_23 : decode cX9_dominates 23 = .ok (.getfield 140, 3) := by decide +kernel
theorem dX9_dominates_26 : decode cX9_dominates 26 = .ok (.getfield 173, 3) := by decide +kernel
theorem dX9_dominates_29 : decode cX9_dominates 29 = .ok (.aload 4, 2) := by decide +kernel
theorem dX9_dominates_31 : decode cX9_dominates 31 = .ok (.getfield 140, 3) := by decide +kernel
theorem dX9_dominates_34 : decode cX9_dominates 34 = .ok (.getfield 173, 3) := by decide +kernel
theorem dX9_dominates_37 : decode cX9_dominates 37 = .ok (.if_icmp .ne 16, 3) := by decide +kernel
theorem dX9_dominates_40 : decode cX9_dominates 40 = .ok (.aload_n 3, 1) := by decide +kernel
theorem dX9_dominates_41 : decode cX9_dominates 41 = .ok (.aload 4, 2) := by decide +kernel
theorem dX9_dominates_43 : decode cX9_dominates 43 = .ok (.invokevirtual 189, 3) := by decide +kernel
theorem dX9_dominates_46 : decode cX9_dominates 46 = .ok (.ifCond .eq 7, 3) := by decide +kernel
theorem dX9_dominates_49 : decode cX9_dominates 49 = .ok (.iconst 1, 1) := by decide +kernel
theorem dX9_dominates_50 : decode cX9_dominates 50 = .ok (.goto 4, 3) := by decide +kernel
theorem dX9_dominates_53 : decode cX9_dominates 53 = .ok (.iconst 0, 1) := by decide +kernel
theorem dX9_dominates_54 : decode cX9_dominates 54 = .ok (.ireturn, 1) := by decide +kernel
set_option maxRecDepth 20000 in
theorem ggX9_order_X9_functionAt : GoodIn wsX9_order wsX9_functionAt := goodIn_r _ [7, 8, 9, 32, 33, 34, 35, 36, 37, 38, 39, 40, 41, 42, 43] (by decide +kernel) (by decide +kernel)
set_option maxRecDepth 20000 in
theorem gX9_order_X9_functionAt : GoodIn wsX9_order (wsV RX9 129 RX9 yX9_functionAt wsX9_functionAt) := goodIn_app (goodIn_of _ (by decide +kernel)) ggX9_order_X9_functionAt
set_option maxRecDepth 20000 in
theorem ggX9_order_X1_numberAt : GoodIn wsX9_order wsX1_numberAt := goodIn_r _ [14, 15, 16, 17, 18, 13, 19, 20, 21, 44, 45, 46, 47, 48, 49, 50, 51, 52, 22, 23, 24, 25, 26, 27, 28, 29, 30, 31] (by decide +kernel) (by decide +kernel)
set_option maxRecDepth 20000 in
theorem gX9_order_X1_numberAt : GoodIn wsX9_order (wsV RX9 198 RX1 yX1_numberAt wsX1_numberAt) := goodIn_app (goodIn_of _ (by decide +kernel)) ggX9_order_X1_numberAt
theorem dX9_order_0 : decode cX9_order 0 = .ok (.aload_n 0, 1) := by decide +kernel
theorem dX9_order_1 : decode cX9_order 1 = .ok (.iload_n 1, 1) := by decide +kernel
theorem dX9_order_2 : decode cX9_order 2 = .ok (.invokevirtual 129, 3) := by decide +kernel
theorem dX9_order_5 : decode cX9_order 5 = .ok (.astore_n 3, 1) := by decide +kernel
theorem dX9_order_6 : decode cX9_order 6 = .ok (.aload_n 3, 1) := by decide +kernel
theorem dX9_order_7 : decode cX9_order 7 = .ok (.ifnull 15, 3) := by decide +kernel
theorem dX9_order_10 : decode cX9_order 10 = .ok (.iload_n 2, 1) := by decide +kernel
theorem dX9_order_11 : decode cX9_order 11 = .ok (.ifCond .lt 11, 3) := by decide +kernel
theorem dX9_order_14 : decode cX9_order 14 = .ok (.iload_n 2, 1) := by decide +kernel
theorem dX9_order_15 : decode cX9_order 15 = .ok (.aload_n 3, 1) := by decide +kernel
theorem dX9_order_16 : decode cX9_order 16 = .ok (.getfield 192, 3) := by decide +kernel
theorem dX9_order_19 : decode cX9_order 19 = .ok (.if_icmp .lt 5, 3) := by decide +kernel
theorem dX9_order_22 : decode cX9_order 22 = .ok (.iconst (-1), 1) := by decide +kernel
theorem dX9_order_23 : decode cX9_order 23 = .ok (.ireturn, 1) := by decide +kernel
theorem dX9_order_24 : decode cX9_order 24 = .ok (.aload_n 3, 1) := by decide +kernel
theorem dX9_order_25 : decode cX9_order 25 = .ok (.aload_n 3, 1) := by decide +kernel
theorem dX9_order_26 : decode cX9_order 26 = .ok (.getfield 195, 3) := by decide +kernel
theorem dX9_order_29 : decode cX9_order 29 = .ok (.iload_n 2, 1) := by decide +kernel
theorem dX9_order_30 : decode cX9_order 30 = .ok (.iaload, 1) := by decide +kernel
theorem dX9_order_31 : decode cX9_order 31 = .ok (.invokevirtual 198, 3) := by decide +kernel
theorem dX9_order_34 : decode cX9_order 34 = .ok (.ireturn, 1) := by decide +kernel
set_option maxRecDepth 20000 in
theorem ggX9_arg_X7_holds : GoodIn wsX9_arg wsX7_holds := goodIn_r _ [7, 8, 21, 22, 23] (by decide +kernel) (by decide +kernel)
set_option maxRecDepth 20000 in
theorem gX9_arg_X7_holds : GoodIn wsX9_arg (wsV RX9 114 RX7 yX7_holds wsX7_holds) := goodIn_app (goodIn_of _ (by decide +kernel)) ggX9_arg_X7_holds
theorem dX9_arg_0 : decode cX9_arg 0 = .ok (.iload_n 1, 1) := by decide +kernel
theorem dX9_arg_1 : decode cX9_arg 1 = .ok (.ifCond .lt 19, 3) := by decide +kernel
theorem dX9_arg_4 : decode cX9_arg 4 = .ok (.iload_n 1, 1) := by decide +kernel
theorem dX9_arg_5 : decode cX9_arg 5 = .ok (.iconst 2, 1) := by decide +kernel
theorem dX9_arg_6 : decode cX9_arg 6 = .ok (.if_icmp .ge 14, 3) := by decide +kernel
theorem dX9_arg_9 : decode cX9_arg 9 = .ok (.aload_n 0, 1) := by decide +kernel
theorem dX9_arg_10 : decode cX9_arg 10 = .ok (.getfield 19, 3) := by decide +kernel
theorem dX9_arg_13 : decode cX9_arg 13 = .ok (.iload_n 2, 1) := by decide +kernel
theorem dX9_arg_14 : decode cX9_arg 14 = .ok (.invokevirtual 114, 3) := by decide +kernel
theorem dX9_arg_17 : decode cX9_arg 17 = .ok (.ifCond .ne 6, 3) := by decide +kernel
theorem dX9_arg_20 : decode cX9_arg 20 = .ok (.bipush (-2), 2) := by decide +kernel
theorem dX9_arg_22 : decode cX9_arg 22 = .ok (.ireturn, 1) := by decide +kernel
theorem dX9_arg_23 : decode cX9_arg 23 = .ok (.aload_n 0, 1) := by decide +kernel
theorem dX9_arg_24 : decode cX9_arg 24 = .ok (.getfield 35, 3) := by decide +kernel
theorem dX9_arg_27 : decode cX9_arg 27 = .ok (.iload_n 1, 1) := by decide +kernel
theorem dX9_arg_28 : decode cX9_arg 28 = .ok (.iload_n 2, 1) := by decide +kernel
theorem dX9_arg_29 : decode cX9_arg 29 = .ok (.iastore, 1) := by decide +kernel
theorem dX9_arg_30 : decode cX9_arg 30 = .ok (.iconst 1, 1) := by decide +kernel
theorem dX9_arg_31 : decode cX9_arg 31 = .ok (.ireturn, 1) := by decide +kernel
set_option maxRecDepth 20000 in
theorem ggX9_call_X9_functionAt : GoodIn wsX9_call wsX9_functionAt := goodIn_r _ [8, 9, 10, 204, 205, 206, 207, 208, 209, 210, 211, 212, 213, 214, 215] (by decide +kernel) (by decide +kernel)
set_option maxRecDepth 20000 in
theorem gX9_call_X9_functionAt : GoodIn wsX9_call (wsV RX9 129 RX9 yX9_functionAt wsX9_functionAt) := goodIn_app (goodIn_of _ (by decide +kernel)) ggX9_call_X9_functionAt
set_option maxRecDepth 20000 in
theorem ggX9_call_X9_readToldRow : GoodIn wsX9_call wsX9_readToldRow := goodIn_r _ [14, 15, 16, 17, 18, 19, 20, 21, 22, 23, 24, 25, 26, 27, 28, 29, 222, 223, 224, 225, 226, 227, 228, 229, 230, 231, 204, 205, 206, 207, 208, 209, 210, 211, 212, 213, 214, 215, 232, 233, 234, 235, 236, 237] (by decide +kernel) (by decide +kernel)
set_option maxRecDepth 20000 in
theorem gX9_call_X9_readToldRow : GoodIn wsX9_call (wsV RX9 202 RX9 yX9_readToldRow wsX9_readToldRow) := goodIn_app (goodIn_of _ (by decide +kernel)) ggX9_call_X9_readToldRow
set_option maxRecDepth 20000 in
theorem ggX9_call_X3_begin : GoodIn wsX9_call wsX3_begin := goodIn_r _ [34, 35, 36, 37, 38, 39, 216, 217, 218, 219, 220, 221] (by decide +kernel) (by decide +kernel)
set_option maxRecDepth 20000 in
theorem gX9_call_X3_begin : GoodIn wsX9_call (wsV RX9 206 RX3 yX3_begin wsX3_begin) := goodIn_app (goodIn_of _ (by decide +kernel)) ggX9_call_X3_begin
set_option maxRecDepth 20000 in
theorem ggX9_call_X9_carryOut : GoodIn wsX9_call wsX9_carryOut := goodIn_r _ [43, 1, 3, 18, 44, 45, 46, 7, 47, 48, 49, 50, 51, 52, 53, 54, 55, 56, 57, 58, 59, 60, 61, 62, 63, 64, 65, 66, 67, 68, 69, 70, 71, 72, 73, 74, 75, 76, 77, 78, 79, 80, 81, 82, 83, 84, 85, 86, 87, 88, 89, 90, 91, 92, 93, 94, 95, 96, 97, 98, 99, 100, 101, 102, 103, 104, 33, 105, 35, 106, 107, 108, 109, 110, 111, 112, 113, 114, 115, 116, 117, 118, 119, 120, 121, 122, 123, 124, 125, 126, 127, 128, 129, 130, 131, 132, 133, 134, 135, 136, 137, 138, 139, 140, 141, 142, 143, 144, 145, 146, 147, 148, 149, 150, 151, 152, 153, 154, 155, 156, 157, 158, 159, 160, 161, 162, 163, 164, 165, 166, 167, 37, 39, 168, 169, 170, 171, 38, 172, 173, 174, 175, 176, 177, 178, 179, 180, 181, 182, 183, 184, 17, 19, 21, 185, 186, 187, 27, 188, 29, 189, 190, 191, 192, 193, 194, 15, 23, 4, 5, 6, 8, 9, 10, 195, 196, 197, 198, 199, 200, 201, 202, 203, 204, 205, 206, 207, 208, 209, 210, 211, 212, 213, 214, 215, 216, 217, 218, 219, 220, 221, 222, 223, 224, 225, 226, 227, 228, 229, 230, 231, 238, 239, 240, 241, 242, 243, 244, 245, 246, 232, 233, 234, 247, 248, 249, 250, 251, 252, 253, 254, 255, 256, 257, 258, 235, 236, 237] (by decide +kernel) (by decide +kernel)
set_option maxRecDepth 20000 in
theorem gX9_call_X9_carryOut : GoodIn wsX9_call (wsV RX9 212 RX9 yX9_carryOut wsX9_carryOut) := goodIn_app (goodIn_of _ (by decide +kernel)) ggX9_call_X9_carryOut
theorem dX9_call_0 : decode cX9_call 0 = .ok (.aload_n 0, 1) := by decide +kernel
theorem dX9_call_1 : decode cX9_call 1 = .ok (.iload_n 1, 1) := by decide +kernel
theorem dX9_call_2 : decode cX9_call 2 = .ok (.invokevirtual 129, 3) := by decide +kernel
theorem dX9_call_5 : decode cX9_call 5 = .ok (.astore_n 2, 1) := by decide +kernel
theorem dX9_call_6 : decode cX9_call 6 = .ok (.aload_n 2, 1) := by decide +kernel
theorem dX9_call_7 : decode cX9_call 7 = .ok (.ifnonnull 6, 3) := by decide +kernel
theorem dX9_call_10 : decode cX9_call 10 = .ok (.bipush (-2), 2) := by decide +kernel
theorem dX9_call_12 : decode cX9_call 12 = .ok (.ireturn, 1) := by decide +kernel
theorem dX9_call_13 : decode cX9_call 13 = .ok (.aload_n 0, 1) := by decide +kernel
theorem dX9_call_14 : decode cX9_call 14 = .ok (.aload_n 2, 1) := by decide +kernel
theorem dX9_call_15 : decode cX9_call 15 = .ok (.invokevirtual 202, 3) := by decide +kernel
theorem dX9_call_18 : decode cX9_call 18 = .ok (.ifCond .ne 6, 3) := by decide +kernel
theorem dX9_call_21 : decode cX9_call 21 = .ok (.bipush (-3), 2) := by decide +kernel
theorem dX9_call_23 : decode cX9_call 23 = .ok (.ireturn, 1) := by decide +kernel
theorem dX9_call_24 : decode cX9_call 24 = .ok (.aload_n 0, 1) := by decide +kernel
theorem dX9_call_25 : decode cX9_call 25 = .ok (.getfield 52, 3) := by decide +kernel
theorem dX9_call_28 : decode cX9_call 28 = .ok (.invokevirtual 206, 3) := by decide +kernel
theorem dX9_call_31 : decode cX9_call 31 = .ok (.aload_n 2, 1) := by decide +kernel
theorem dX9_call_32 : decode cX9_call 32 = .ok (.astore_n 3, 1) := by decide +kernel
theorem dX9_call_33 : decode cX9_call 33 = .ok (.iconst 1, 1) := by decide +kernel
theorem dX9_call_34 : decode cX9_call 34 = .ok (.istore 4, 2) := by decide +kernel
theorem dX9_call_36 : decode cX9_call 36 = .ok (.aload_n 3, 1) := by decide +kernel
theorem dX9_call_37 : decode cX9_call 37 = .ok (.ifnull 31, 3) := by decide +kernel
theorem dX9_call_40 : decode cX9_call 40 = .ok (.iload 4, 2) := by decide +kernel
theorem dX9_call_42 : decode cX9_call 42 = .ok (.bipush 12, 2) := by decide +kernel
theorem dX9_call_44 : decode cX9_call 44 = .ok (.if_icmp .gt 24, 3) := by decide +kernel
theorem dX9_call_47 : decode cX9_call 47 = .ok (.aload_n 0, 1) := by decide +kernel
theorem dX9_call_48 : decode cX9_call 48 = .ok (.getfield 52, 3) := by decide +kernel
theorem dX9_call_51 : decode cX9_call 51 = .ok (.iload 4, 2) := by decide +kernel
theorem dX9_call_53 : decode cX9_call 53 = .ok (.putfield 209, 3) := by decide +kernel
theorem dX9_call_56 : decode cX9_call 56 = .ok (.aload_n 0, 1) := by decide +kernel
theorem dX9_call_57 : decode cX9_call 57 = .ok (.aload_n 3, 1) := by decide +kernel
theorem dX9_call_58 : decode cX9_call 58 = .ok (.invokevirtual 212, 3) := by decide +kernel
theorem dX9_call_61 : decode cX9_call 61 = .ok (.astore_n 3, 1) := by decide +kernel
theorem dX9_call_62 : decode cX9_call 62 = .ok (.iinc 4 1, 3) := by decide +kernel
theorem dX9_call_65 : decode cX9_call 65 = .ok (.goto (-29), 3) := by decide +kernel
theorem dX9_call_68 : decode cX9_call 68 = .ok (.aload_n 3, 1) := by decide +kernel
theorem dX9_call_69 : decode cX9_call 69 = .ok (.ifnull 11, 3) := by decide +kernel
theorem dX9_call_72 : decode cX9_call 72 = .ok (.aload_n 0, 1) := by decide +kernel
theorem dX9_call_73 : decode cX9_call 73 = .ok (.getfield 52, 3) := by decide +kernel
theorem dX9_call_76 : decode cX9_call 76 = .ok (.iconst 4, 1) := by decide +kernel
theorem dX9_call_77 : decode cX9_call 77 = .ok (.putfield 216, 3) := by decide +kernel
theorem dX9_call_80 : decode cX9_call 80 = .ok (.aload_n 0, 1) := by decide +kernel
theorem dX9_call_81 : decode cX9_call 81 = .ok (.getfield 52, 3) := by decide +kernel
theorem dX9_call_84 : decode cX9_call 84 = .ok (.getfield 216, 3) := by decide +kernel
theorem dX9_call_87 : decode cX9_call 87 = .ok (.ireturn, 1) := by decide +kernel
theorem dX9_value_0 : decode cX9_value 0 = .ok (.aload_n 0, 1) := by decide +kernel
theorem dX9_value_1 : decode cX9_value 1 = .ok (.getfield 52, 3) := by decide +kernel
theorem dX9_value_4 : decode cX9_value 4 = .ok (.getfield 216, 3) := by decide +kernel
theorem dX9_value_7 : decode cX9_value 7 = .ok (.ifCond .ne 13, 3) := by decide +kernel
theorem dX9_value_10 : decode cX9_value 10 = .ok (.aload_n 0, 1) := by decide +kernel
theorem dX9_value_11 : decode cX9_value 11 = .ok (.getfield 52, 3) := by decide +kernel
theorem dX9_value_14 : decode cX9_value 14 = .ok (.getfield 219, 3) := by decide +kernel
theorem dX9_value_17 : decode cX9_value 17 = .ok (.goto 4, 3) := by decide +kernel
theorem dX9_value_20 : decode cX9_value 20 = .ok (.lconst 0, 1) := by decide +kernel
theorem dX9_value_21 : decode cX9_value 21 = .ok (.lreturn, 1) := by decide +kernel
theorem dX9_failure_0 : decode cX9_failure 0 = .ok (.aload_n 0, 1) := by decide +kernel
theorem dX9_failure_1 : decode cX9_failure 1 = .ok (.getfield 52, 3) := by decide +kernel
theorem dX9_failure_4 : decode cX9_failure 4 = .ok (.getfield 216, 3) := by decide +kernel
theorem dX9_failure_7 : decode cX9_failure 7 = .ok (.iconst 3, 1) := by decide +kernel
theorem dX9_failure_8 : decode cX9_failure 8 = .ok (.if_icmp .ne 13, 3) := by decide +kernel
theorem dX9_failure_11 : decode cX9_failure 11 = .ok (.aload_n 0, 1) := by decide +kernel
theorem dX9_failure_12 : decode cX9_failure 12 = .ok (.getfield 52, 3) := by decide +kernel
theorem dX9_failure_15 : decode cX9_failure 15 = .ok (.getfield 223, 3) := by decide +kernel
theorem dX9_failure_18 : decode cX9_failure 18 = .ok (.goto 4, 3) := by decide +kernel
theorem dX9_failure_21 : decode cX9_failure 21 = .ok (.iconst 0, 1) := by decide +kernel
theorem dX9_failure_22 : decode cX9_failure 22 = .ok (.ireturn, 1) := by decide +kernel
theorem dX9_step_0 : decode cX9_step 0 = .ok (.iload_n 1, 1) := by decide +kernel
theorem dX9_step_1 : decode cX9_step 1 = .ok (.ifCond .lt 21, 3) := by decide +kernel
theorem dX9_step_4 : decode cX9_step 4 = .ok (.iload_n 1, 1) := by decide +kernel
theorem dX9_step_5 : decode cX9_step 5 = .ok (.aload_n 0, 1) := by decide +kernel
theorem dX9_step_6 : decode cX9_step 6 = .ok (.getfield 52, 3) := by decide +kernel
theorem dX9_step_9 : decode cX9_step 9 = .ok (.getfield 226, 3) := by decide +kernel
theorem dX9_step_12 : decode cX9_step 12 = .ok (.if_icmp .ge 10, 3) := by decide +kernel
theorem dX9_step_15 : decode cX9_step 15 = .ok (.iload_n 1, 1) := by decide +kernel
theorem dX9_step_16 : decode cX9_step 16 = .ok (.sipush 1000, 3) := by decide +kernel
theorem dX9_step_19 : decode cX9_step 19 = .ok (.if_icmp .lt 5, 3) := by decide +kernel
theorem dX9_step_22 : decode cX9_step 22 = .ok (.iconst (-1), 1) := by decide +kernel
theorem dX9_step_23 : decode cX9_step 23 = .ok (.ireturn, 1) := by decide +kernel
theorem dX9_step_24 : decode cX9_step 24 = .ok (.aload_n 0, 1) := by decide +kernel
theorem dX9_step_25 : decode cX9_step 25 = .ok (.getfield 52, 3) := by decide +kernel
theorem dX9_step_28 : decode cX9_step 28 = .ok (.getfield 229, 3) := by decide +kernel
theorem dX9_step_31 : decode cX9_step 31 = .ok (.iload_n 1, 1) := by decide +kernel
theorem dX9_step_32 : decode cX9_step 32 = .ok (.iaload, 1) := by decide +kernel
theorem dX9_step_33 : decode cX9_step 33 = .ok (.ireturn, 1) := by decide +kernel
theorem dX9_counter_0 : decode cX9_counter 0 = .ok (.iload_n 1, 1) := by decide +kernel
theorem dX9_counter_1 : decode cX9_counter 1 = .ok (.ifCond .lt 9, 3) := by decide +kernel
theorem dX9_counter_4 : decode cX9_counter 4 = .ok (.iload_n 1, 1) := by decide +kernel
theorem dX9_counter_5 : decode cX9_counter 5 = .ok (.bipush 8, 2) := by decide +kernel
theorem dX9_counter_7 : decode cX9_counter 7 = .ok (.if_icmp .lt 7, 3) := by decide +kernel
theorem dX9_counter_10 : decode cX9_counter 10 = .ok (.iconst (-1), 1) := by decide +kernel
theorem dX9_counter_11 : decode cX9_counter 11 = .ok (.goto 9, 3) := by decide +kernel
theorem dX9_counter_14 : decode cX9_counter 14 = .ok (.aload_n 0, 1) := by decide +kernel
theorem dX9_counter_15 : decode cX9_counter 15 = .ok (.getfield 39, 3) := by decide +kernel
theorem dX9_counter_18 : decode cX9_counter 18 = .ok (.iload_n 1, 1) := by decide +kernel
theorem dX9_counter_19 : decode cX9_counter 19 = .ok (.iaload, 1) := by decide +kernel
theorem dX9_counter_20 : decode cX9_counter 20 = .ok (.ireturn, 1) := by decide +kernel
set_option maxRecDepth 20000 in
theorem ggX9_applicable_X9_functionAt : GoodIn wsX9_applicable wsX9_functionAt := goodIn_r _ [6, 7, 8, 82, 83, 84, 85, 86, 87, 88, 89, 90, 91, 92, 93] (by decide +kernel) (by decide +kernel)
set_option maxRecDepth 20000 in
theorem gX9_applicable_X9_functionAt : GoodIn wsX9_applicable (wsV RX9 129 RX9 yX9_functionAt wsX9_functionAt) := goodIn_app (goodIn_of _ (by decide +kernel)) ggX9_applicable_X9_functionAt
set_option maxRecDepth 20000 in
theorem ggX9_applicable_X9_readToldRow : GoodIn wsX9_applicable wsX9_readToldRow := goodIn_r _ [12, 13, 14, 15, 1, 16, 17, 18, 19, 20, 21, 22, 23, 24, 25, 26, 94, 95, 96, 97, 98, 99, 100, 101, 102, 103, 82, 83, 84, 85, 86, 87, 88, 89, 90, 91, 92, 93, 104, 105, 106, 107, 108, 109] (by decide +kernel) (by decide +kernel)
set_option maxRecDepth 20000 in
theorem gX9_applicable_X9_readToldRow : GoodIn wsX9_applicable (wsV RX9 202 RX9 yX9_readToldRow wsX9_readToldRow) := goodIn_app (goodIn_of _ (by decide +kernel)) ggX9_applicable_X9_readToldRow
set_option maxRecDepth 20000 in
theorem ggX9_applicable_X1_plainTakersOf : GoodIn wsX9_applicable wsX1_plainTakersOf := goodIn_r _ [31, 32, 33, 34, 35, 30, 36, 37, 38, 39, 40, 41, 42, 43, 44, 45, 46, 47, 48, 49, 50, 51, 52, 53, 54, 55, 56, 57, 58, 59, 60, 61, 62, 63, 64, 65, 66, 67, 68, 69, 94, 95, 96, 97, 98, 99, 100, 101, 102, 103, 104, 105, 106, 110, 111, 112, 113, 114, 115, 116, 117, 118, 119, 120, 121, 122, 123] (by decide +kernel) (by decide +kernel)
set_option maxRecDepth 20000 in
theorem gX9_applicable_X1_plainTakersOf : GoodIn wsX9_applicable (wsV RX9 232 RX1 yX1_plainTakersOf wsX1_plainTakersOf) := goodIn_app (goodIn_of _ (by decide +kernel)) ggX9_applicable_X1_plainTakersOf
set_option maxRecDepth 20000 in
theorem ggX9_applicable_X9_memberAt : GoodIn wsX9_applicable wsX9_memberAt := goodIn_r _ [72] (by decide +kernel) (by decide +kernel)
set_option maxRecDepth 20000 in
theorem gX9_applicable_X9_memberAt : GoodIn wsX9_applicable (va_wsS RX9 236 yX9_memberAt wsX9_memberAt) := goodIn_app (goodIn_of _ (by decide +kernel)) ggX9_applicable_X9_memberAt
set_option maxRecDepth 20000 in
theorem ggX9_applicable_X1_numberAt : GoodIn wsX9_applicable wsX1_numberAt := goodIn_r _ [76, 77, 78, 79, 80, 30, 81, 37, 45, 110, 111, 112, 113, 114, 115, 116, 117, 118, 94, 95, 96, 97, 98, 99, 100, 101, 102, 103] (by decide +kernel) (by decide +kernel)
set_option maxRecDepth 20000 in
theorem gX9_applicable_X1_numberAt : GoodIn wsX9_applicable (wsV RX9 198 RX1 yX1_numberAt wsX1_numberAt) := goodIn_app (goodIn_of _ (by decide +kernel)) ggX9_applicable_X1_numberAt
theorem dX9_applicable_0 : decode cX9_applicable 0 = .ok (.aload_n 0, 1) := by decide +kernel
theorem dX9_applicable_1 : decode cX9_applicable 1 = .ok (.iload_n 1, 1) := by decide +kernel
theorem dX9_applicable_2 : decode cX9_applicable 2 = .ok (.invokevirtual 129, 3) := by decide +kernel
theorem dX9_applicable_5 : decode cX9_applicable 5 = .ok (.astore_n 3, 1) := by decide +kernel
theorem dX9_applicable_6 : decode cX9_applicable 6 = .ok (.aload_n 3, 1) := by decide +kernel
theorem dX9_applicable_7 : decode cX9_applicable 7 = .ok (.ifnull 11, 3) := by decide +kernel
theorem dX9_applicable_10 : decode cX9_applicable 10 = .ok (.aload_n 0, 1) := by decide +kernel
theorem dX9_applicable_11 : decode cX9_applicable 11 = .ok (.aload_n 3, 1) := by decide +kernel
theorem dX9_applicable_12 : decode cX9_applicable 12 = .ok (.invokevirtual 202, 3) := by decide +kernel
theorem dX9_applicable_15 : decode cX9_applicable 15 = .ok (.ifCond .ne 5, 3) := by decide +kernel
theorem dX9_applicable_18 : decode cX9_applicable 18 = .ok (.iconst (-1), 1) := by decide +kernel
theorem dX9_applicable_19 : decode cX9_applicable 19 = .ok (.ireturn, 1) := by decide +kernel
theorem dX9_applicable_20 : decode cX9_applicable 20 = .ok (.aload_n 3, 1) := by decide +kernel
theorem dX9_applicable_21 : decode cX9_applicable 21 = .ok (.aload_n 3, 1) := by decide +kernel
theorem dX9_applicable_22 : decode cX9_applicable 22 = .ok (.aload_n 0, 1) := by decide +kernel
theorem dX9_applicable_23 : decode cX9_applicable 23 = .ok (.getfield 45, 3) := by decide +kernel
theorem dX9_applicable_26 : decode cX9_applicable 26 = .ok (.invokevirtual 232, 3) := by decide +kernel
theorem dX9_applicable_29 : decode cX9_applicable 29 = .ok (.iload_n 2, 1) := by decide +kernel
theorem dX9_applicable_30 : decode cX9_applicable 30 = .ok (.invokestatic 236, 3) := by decide +kernel
theorem dX9_applicable_33 : decode cX9_applicable 33 = .ok (.invokevirtual 198, 3) := by decide +kernel
theorem dX9_applicable_36 : decode cX9_applicable 36 = .ok (.ireturn, 1) := by decide +kernel
set_option maxRecDepth 20000 in
theorem ggX9_most_X9_functionAt : GoodIn wsX9_most wsX9_functionAt := goodIn_r _ [6, 7, 8, 84, 85, 86, 87, 88, 89, 90, 91, 92, 93, 94, 95] (by decide +kernel) (by decide +kernel)
set_option maxRecDepth 20000 in
theorem gX9_most_X9_functionAt : GoodIn wsX9_most (wsV RX9 129 RX9 yX9_functionAt wsX9_functionAt) := goodIn_app (goodIn_of _ (by decide +kernel)) ggX9_most_X9_functionAt
set_option maxRecDepth 20000 in
theorem ggX9_most_X9_readToldRow : GoodIn wsX9_most wsX9_readToldRow := goodIn_r _ [12, 13, 14, 15, 1, 16, 17, 18, 19, 20, 21, 22, 23, 24, 25, 26, 96, 97, 98, 99, 100, 101, 102, 103, 104, 105, 84, 85, 86, 87, 88, 89, 90, 91, 92, 93, 94, 95, 106, 107, 108, 109, 110, 111] (by decide +kernel) (by decide +kernel)
set_option maxRecDepth 20000 in
theorem gX9_most_X9_readToldRow : GoodIn wsX9_most (wsV RX9 202 RX9 yX9_readToldRow wsX9_readToldRow) := goodIn_app (goodIn_of _ (by decide +kernel)) ggX9_most_X9_readToldRow
set_option maxRecDepth 20000 in
theorem ggX9_most_X1_plainTakersOf : GoodIn wsX9_most wsX1_plainTakersOf := goodIn_r _ [31, 32, 33, 34, 35, 30, 36, 37, 38, 39, 40, 41, 42, 43, 44, 45, 46, 47, 48, 49, 50, 51, 52, 53, 54, 55, 56, 57, 58, 59, 60, 61, 62, 63, 64, 65, 66, 67, 68, 69, 96, 97, 98, 99, 100, 101, 102, 103, 104, 105, 106, 107, 108, 112, 113, 114, 115, 116, 117, 118, 119, 120, 121, 122, 123, 124, 125] (by decide +kernel) (by decide +kernel)
set_option maxRecDepth 20000 in
theorem gX9_most_X1_plainTakersOf : GoodIn wsX9_most (wsV RX9 232 RX1 yX1_plainTakersOf wsX1_plainTakersOf) := goodIn_app (goodIn_of _ (by decide +kernel)) ggX9_most_X1_plainTakersOf
set_option maxRecDepth 20000 in
theorem ggX9_most_X1_chosenOf : GoodIn wsX9_most wsX1_chosenOf := goodIn_r _ [73, 37, 74, 96, 97, 98, 99, 100, 101, 102, 103, 104, 105] (by decide +kernel) (by decide +kernel)
set_option maxRecDepth 20000 in
theorem gX9_most_X1_chosenOf : GoodIn wsX9_most (wsV RX9 239 RX1 yX1_chosenOf wsX1_chosenOf) := goodIn_app (goodIn_of _ (by decide +kernel)) ggX9_most_X1_chosenOf
set_option maxRecDepth 20000 in
theorem ggX9_most_X1_numberAt : GoodIn wsX9_most wsX1_numberAt := goodIn_r _ [78, 79, 80, 81, 82, 30, 83, 37, 45, 112, 113, 114, 115, 116, 117, 118, 119, 120, 96, 97, 98, 99, 100, 101, 102, 103, 104, 105] (by decide +kernel) (by decide +kernel)
set_option maxRecDepth 20000 in
theorem gX9_most_X1_numberAt : GoodIn wsX9_most (wsV RX9 198 RX1 yX1_numberAt wsX1_numberAt) := goodIn_app (goodIn_of _ (by decide +kernel)) ggX9_most_X1_numberAt
theorem dX9_most_0 : decode cX9_most 0 = .ok (.aload_n 0, 1) := by decide +kernel
theorem dX9_most_1 : decode cX9_most 1 = .ok (.iload_n 1, 1) := by decide +kernel
theorem dX9_most_2 : decode cX9_most 2 = .ok (.invokevirtual 129, 3) := by decide +kernel
theorem dX9_most_5 : decode cX9_most 5 = .ok (.astore_n 2, 1) := by decide +kernel
theorem dX9_most_6 : decode cX9_most 6 = .ok (.aload_n 2, 1) := by decide +kernel
theorem dX9_most_7 : decode cX9_most 7 = .ok (.ifnull 11, 3) := by decide +kernel
theorem dX9_most_10 : decode cX9_most 10 = .ok (.aload_n 0, 1) := by decide +kernel
theorem dX9_most_11 : decode cX9_most 11 = .ok (.aload_n 2, 1) := by decide +kernel
theorem dX9_most_12 : decode cX9_most 12 = .ok (.invokevirtual 202, 3) := by decide +kernel
theorem dX9_most_15 : decode cX9_most 15 = .ok (.ifCond .ne 5, 3) := by decide +kernel
theorem dX9_most_18 : decode cX9_most 18 = .ok (.iconst (-1), 1) := by decide +kernel
theorem dX9_most_19 : decode cX9_most 19 = .ok (.ireturn, 1) := by decide +kernel
theorem dX9_most_20 : decode cX9_most 20 = .ok (.aload_n 2, 1) := by decide +kernel
theorem dX9_most_21 : decode cX9_most 21 = .ok (.aload_n 2, 1) := by decide +kernel
theorem dX9_most_22 : decode cX9_most 22 = .ok (.aload_n 2, 1) := by decide +kernel
theorem dX9_most_23 : decode cX9_most 23 = .ok (.aload_n 0, 1) := by decide +kernel
theorem dX9_most_24 : decode cX9_most 24 = .ok (.getfield 45, 3) := by decide +kernel
theorem dX9_most_27 : decode cX9_most 27 = .ok (.invokevirtual 232, 3) := by decide +kernel
theorem dX9_most_30 : decode cX9_most 30 = .ok (.invokevirtual 239, 3) := by decide +kernel
theorem dX9_most_33 : decode cX9_most 33 = .ok (.invokevirtual 198, 3) := by decide +kernel
theorem dX9_most_36 : decode cX9_most 36 = .ok (.ireturn, 1) := by decide +kernel
set_option maxRecDepth 20000 in
theorem ggX9_explain_X9_handlerAt : GoodIn wsX9_explain wsX9_handlerAt := goodIn_r _ [10, 11, 12, 121, 122, 123, 124, 125, 126, 127, 128, 129, 130, 131, 132] (by decide +kernel) (by decide +kernel)
set_option maxRecDepth 20000 in
theorem gX9_explain_X9_handlerAt : GoodIn wsX9_explain (wsV RX9 136 RX9 yX9_handlerAt wsX9_handlerAt) := goodIn_app (goodIn_of _ (by decide +kernel)) ggX9_explain_X9_handlerAt
set_option maxRecDepth 20000 in
theorem ggX9_explain_X9_readToldRow : GoodIn wsX9_explain wsX9_readToldRow := goodIn_r _ [16, 17, 18, 19, 5, 20, 21, 22, 23, 24, 25, 26, 27, 28, 29, 30, 133, 134, 135, 136, 137, 138, 139, 140, 141, 142, 121, 122, 123, 124, 125, 126, 127, 128, 129, 130, 131, 132, 143, 144, 145, 146, 147, 148] (by decide +kernel) (by decide +kernel)
set_option maxRecDepth 20000 in
theorem gX9_explain_X9_readToldRow : GoodIn wsX9_explain (wsV RX9 202 RX9 yX9_readToldRow wsX9_readToldRow) := goodIn_app (goodIn_of _ (by decide +kernel)) ggX9_explain_X9_readToldRow
set_option maxRecDepth 20000 in
theorem ggX9_explain_X2_firstRefusingPlace : GoodIn wsX9_explain wsX2_firstRefusingPlace := goodIn_r _ [35, 36, 37, 38, 39, 40, 41, 42, 34, 43, 44, 45, 46, 47, 48, 49, 50, 51, 52, 53, 54, 55, 56, 57, 112, 113, 114, 115, 116, 117, 118, 119, 120, 133, 134, 135, 136, 137, 138, 139, 140, 141, 142, 143, 144, 145, 149, 150, 151, 152, 153] (by decide +kernel) (by decide +kernel)
set_option maxRecDepth 20000 in
theorem gX9_explain_X2_firstRefusingPlace : GoodIn wsX9_explain (wsV RX9 242 RX2 yX2_firstRefusingPlace wsX2_firstRefusingPlace) := goodIn_app (goodIn_of _ (by decide +kernel)) ggX9_explain_X2_firstRefusingPlace
set_option maxRecDepth 20000 in
theorem ggX9_explain_X9_explainAmongTakers : GoodIn wsX9_explain wsX9_explainAmongTakers := goodIn_r _ [61, 1, 5, 2, 62, 63, 64, 65, 66, 67, 68, 69, 70, 71, 72, 73, 74, 75, 76, 77, 78, 79, 80, 81, 82, 83, 84, 85, 86, 41, 42, 34, 43, 44, 36, 45, 46, 47, 48, 49, 50, 51, 87, 88, 89, 90, 91, 53, 54, 55, 56, 57, 92, 93, 94, 95, 96, 97, 98, 9, 99, 100, 101, 102, 103, 104, 105, 106, 107, 108, 109, 110, 111, 112, 113, 114, 115, 116, 117, 118, 119, 120, 121, 122, 123, 124, 125, 126, 127, 128, 129, 130, 131, 132, 133, 134, 135, 136, 137, 138, 139, 140, 141, 142, 143, 144, 145, 149, 150, 151, 152, 153] (by decide +kernel) (by decide +kernel)
set_option maxRecDepth 20000 in
theorem gX9_explain_X9_explainAmongTakers : GoodIn wsX9_explain (wsV RX9 245 RX9 yX9_explainAmongTakers wsX9_explainAmongTakers) := goodIn_app (goodIn_of _ (by decide +kernel)) ggX9_explain_X9_explainAmongTakers
theorem dX9_explain_0 : decode cX9_explain 0 = .ok (.aload_n 0, 1) := by decide +kernel
theorem dX9_explain_1 : decode cX9_explain 1 = .ok (.iload_n 1, 1) := by decide +kernel
theorem dX9_explain_2 : decode cX9_explain 2 = .ok (.invokevirtual 136, 3) := by decide +kernel
theorem dX9_explain_5 : decode cX9_explain 5 = .ok (.astore_n 2, 1) := by decide +kernel
theorem dX9_explain_6 : decode cX9_explain 6 = .ok (.aload_n 2, 1) := by decide +kernel
theorem dX9_explain_7 : decode cX9_explain 7 = .ok (.ifnonnull 6, 3) := by decide +kernel
theorem dX9_explain_10 : decode cX9_explain 10 = .ok (.bipush (-2), 2) := by decide +kernel
theorem dX9_explain_12 : decode cX9_explain 12 = .ok (.ireturn, 1) := by decide +kernel
theorem dX9_explain_13 : decode cX9_explain 13 = .ok (.aload_n 0, 1) := by decide +kernel
theorem dX9_explain_14 : decode cX9_explain 14 = .ok (.aload_n 2, 1) := by decide +kernel
theorem dX9_explain_15 : decode cX9_explain 15 = .ok (.getfield 140, 3) := by decide +kernel
theorem dX9_explain_18 : decode cX9_explain 18 = .ok (.invokevirtual 202, 3) := by decide +kernel
theorem dX9_explain_21 : decode cX9_explain 21 = .ok (.ifCond .ne 6, 3) := by decide +kernel
theorem dX9_explain_24 : decode cX9_explain 24 = .ok (.bipush (-3), 2) := by decide +kernel
theorem dX9_explain_26 : decode cX9_explain 26 = .ok (.ireturn, 1) := by decide +kernel
theorem dX9_explain_27 : decode cX9_explain 27 = .ok (.aload_n 0, 1) := by decide +kernel
theorem dX9_explain_28 : decode cX9_explain 28 = .ok (.iconst (-1), 1) := by decide +kernel
theorem dX9_explain_29 : decode cX9_explain 29 = .ok (.putfield 70, 3) := by decide +kernel
theorem dX9_explain_32 : decode cX9_explain 32 = .ok (.aload_n 2, 1) := by decide +kernel
theorem dX9_explain_33 : decode cX9_explain 33 = .ok (.getfield 147, 3) := by decide +kernel
theorem dX9_explain_36 : decode cX9_explain 36 = .ok (.iconst 1, 1) := by decide +kernel
theorem dX9_explain_37 : decode cX9_explain 37 = .ok (.if_icmp .eq 5, 3) := by decide +kernel
theorem dX9_explain_40 : decode cX9_explain 40 = .ok (.iconst 1, 1) := by decide +kernel
theorem dX9_explain_41 : decode cX9_explain 41 = .ok (.ireturn, 1) := by decide +kernel
theorem dX9_explain_42 : decode cX9_explain 42 = .ok (.aload_n 2, 1) := by decide +kernel
theorem dX9_explain_43 : decode cX9_explain 43 = .ok (.getfield 182, 3) := by decide +kernel
theorem dX9_explain_46 : decode cX9_explain 46 = .ok (.ifCond .eq 5, 3) := by decide +kernel
theorem dX9_explain_49 : decode cX9_explain 49 = .ok (.iconst 2, 1) := by decide +kernel
theorem dX9_explain_50 : decode cX9_explain 50 = .ok (.ireturn, 1) := by decide +kernel
theorem dX9_explain_51 : decode cX9_explain 51 = .ok (.aload_n 2, 1) := by decide +kernel
theorem dX9_explain_52 : decode cX9_explain 52 = .ok (.aload_n 0, 1) := by decide +kernel
theorem dX9_explain_53 : decode cX9_explain 53 = .ok (.getfield 45, 3) := by decide +kernel
theorem dX9_explain_56 : decode cX9_explain 56 = .ok (.invokevirtual 242, 3) := by decide +kernel
theorem dX9_explain_59 : decode cX9_explain 59 = .ok (.istore_n 3, 1) := by decide +kernel
theorem dX9_explain_60 : decode cX9_explain 60 = .ok (.iload_n 3, 1) := by decide +kernel
theorem dX9_explain_61 : decode cX9_explain 61 = .ok (.iconst (-1), 1) := by decide +kernel
theorem dX9_explain_62 : decode cX9_explain 62 = .ok (.if_icmp .eq 10, 3) := by decide +kernel
theorem dX9_explain_65 : decode cX9_explain 65 = .ok (.aload_n 0, 1) := by decide +kernel
theorem dX9_explain_66 : decode cX9_explain 66 = .ok (.iload_n 3, 1) := by decide +kernel
theorem dX9_explain_67 : decode cX9_explain 67 = .ok (.putfield 70, 3) := by decide +kernel
theorem dX9_explain_70 : decode cX9_explain 70 = .ok (.iconst 3, 1) := by decide +kernel
theorem dX9_explain_71 : decode cX9_explain 71 = .ok (.ireturn, 1) := by decide +kernel
theorem dX9_explain_72 : decode cX9_explain 72 = .ok (.aload_n 0, 1) := by decide +kernel
theorem dX9_explain_73 : decode cX9_explain 73 = .ok (.aload_n 2, 1) := by decide +kernel
theorem dX9_explain_74 : decode cX9_explain 74 = .ok (.invokevirtual 245, 3) := by decide +kernel
theorem dX9_explain_77 : decode cX9_explain 77 = .ok (.ireturn, 1) := by decide +kernel
theorem dX9_where_0 : decode cX9_where 0 = .ok (.aload_n 0, 1) := by decide +kernel
theorem dX9_where_1 : decode cX9_where 1 = .ok (.getfield 70, 3) := by decide +kernel
theorem dX9_where_4 : decode cX9_where 4 = .ok (.ireturn, 1) := by decide +kernel
set_option maxRecDepth 20000 in
theorem ggX9_count_X9_countOfAll : GoodIn wsX9_count wsX9_countOfAll := goodIn_r _ [11, 12, 13, 14, 15, 16, 17, 18, 41, 42, 43, 44, 45, 46, 47, 48, 49, 50, 51, 52, 53, 54, 55, 56, 57, 58, 59, 60, 61, 62, 63] (by decide +kernel) (by decide +kernel)
set_option maxRecDepth 20000 in
theorem gX9_count_X9_countOfAll : GoodIn wsX9_count (wsV RX9 249 RX9 yX9_countOfAll wsX9_countOfAll) := goodIn_app (goodIn_of _ (by decide +kernel)) ggX9_count_X9_countOfAll
set_option maxRecDepth 20000 in
theorem ggX9_count_X9_functionAt : GoodIn wsX9_count wsX9_functionAt := goodIn_r _ [22, 12, 23, 41, 42, 43, 44, 45, 46, 47, 48, 49, 50, 51, 52] (by decide +kernel) (by decide +kernel)
set_option maxRecDepth 20000 in
theorem gX9_count_X9_functionAt : GoodIn wsX9_count (wsV RX9 129 RX9 yX9_functionAt wsX9_functionAt) := goodIn_app (goodIn_of _ (by decide +kernel)) ggX9_count_X9_functionAt
theorem dX9_count_0 : decode cX9_count 0 = .ok (.iload_n 1, 1) := by decide +kernel
theorem dX9_count_1 : decode cX9_count 1 = .ok (.iconst (-1), 1) := by decide +kernel
theorem dX9_count_2 : decode cX9_count 2 = .ok (.if_icmp .ne 9, 3) := by decide +kernel
theorem dX9_count_5 : decode cX9_count 5 = .ok (.aload_n 0, 1) := by decide +kernel
theorem dX9_count_6 : decode cX9_count 6 = .ok (.iload_n 2, 1) := by decide +kernel
theorem dX9_count_7 : decode cX9_count 7 = .ok (.invokevirtual 249, 3) := by decide +kernel
theorem dX9_count_10 : decode cX9_count 10 = .ok (.ireturn, 1) := by decide +kernel
theorem dX9_count_11 : decode cX9_count 11 = .ok (.aload_n 0, 1) := by decide +kernel
theorem dX9_count_12 : decode cX9_count 12 = .ok (.iload_n 1, 1) := by decide +kernel
theorem dX9_count_13 : decode cX9_count 13 = .ok (.invokevirtual 129, 3) := by decide +kernel
theorem dX9_count_16 : decode cX9_count 16 = .ok (.astore_n 3, 1) := by decide +kernel
theorem dX9_count_17 : decode cX9_count 17 = .ok (.aload_n 3, 1) := by decide +kernel
theorem dX9_count_18 : decode cX9_count 18 = .ok (.ifnonnull 6, 3) := by decide +kernel
theorem dX9_count_21 : decode cX9_count 21 = .ok (.bipush (-2), 2) := by decide +kernel
theorem dX9_count_23 : decode cX9_count 23 = .ok (.ireturn, 1) := by decide +kernel
theorem dX9_count_24 : decode cX9_count 24 = .ok (.iload_n 2, 1) := by decide +kernel
theorem dX9_count_25 : decode cX9_count 25 = .ok (.tableswitch 74 0 4 #[35, 40, 45, 58, 66], 35) := by decide +kernel
theorem dX9_count_60 : decode cX9_count 60 = .ok (.aload_n 3, 1) := by decide +kernel
theorem dX9_count_61 : decode cX9_count 61 = .ok (.getfield 252, 3) := by decide +kernel
theorem dX9_count_64 : decode cX9_count 64 = .ok (.ireturn, 1) := by decide +kernel
theorem dX9_count_65 : decode cX9_count 65 = .ok (.aload_n 3, 1) := by decide +kernel
theorem dX9_count_66 : decode cX9_count 66 = .ok (.getfield 192, 3) := by decide +kernel
theorem dX9_count_69 : decode cX9_count 69 = .ok (.ireturn, 1) := by decide +kernel
theorem dX9_count_70 : decode cX9_count 70 = .ok (.aload_n 3, 1) := by decide +kernel
theorem dX9_count_71 : decode cX9_count 71 = .ok (.getfield 159, 3) := by decide +kernel
theorem dX9_count_74 : decode cX9_count 74 = .ok (.ifCond .eq 7, 3) := by decide +kernel
theorem dX9_count_77 : decode cX9_count 77 = .ok (.iconst 1, 1) := by decide +kernel
theorem dX9_count_78 : decode cX9_count 78 = .ok (.goto 4, 3) := by decide +kernel
theorem dX9_count_81 : decode cX9_count 81 = .ok (.iconst 0, 1) := by decide +kernel
theorem dX9_count_82 : decode cX9_count 82 = .ok (.ireturn, 1) := by decide +kernel
theorem dX9_count_83 : decode cX9_count 83 = .ok (.aload_n 3, 1) := by decide +kernel
theorem dX9_count_84 : decode cX9_count 84 = .ok (.getfield 255, 3) := by decide +kernel
theorem dX9_count_87 : decode cX9_count 87 = .ok (.getfield 259, 3) := by decide +kernel
theorem dX9_count_90 : decode cX9_count 90 = .ok (.ireturn, 1) := by decide +kernel
theorem dX9_count_91 : decode cX9_count 91 = .ok (.aload_n 3, 1) := by decide +kernel
theorem dX9_count_92 : decode cX9_count 92 = .ok (.getfield 255, 3) := by decide +kernel
theorem dX9_count_95 : decode cX9_count 95 = .ok (.getfield 264, 3) := by decide +kernel
theorem dX9_count_98 : decode cX9_count 98 = .ok (.ireturn, 1) := by decide +kernel
theorem dX9_count_99 : decode cX9_count 99 = .ok (.bipush (-2), 2) := by decide +kernel
theorem dX9_count_101 : decode cX9_count 101 = .ok (.ireturn, 1) := by decide +kernel
set_option maxRecDepth 20000 in
theorem ggX9_covered_X9_functionAt : GoodIn wsX9_covered wsX9_functionAt := goodIn_r _ [6, 7, 8, 114, 115, 116, 117, 118, 119, 120, 121, 122, 123, 124, 125] (by decide +kernel) (by decide +kernel)
set_option maxRecDepth 20000 in
theorem gX9_covered_X9_functionAt : GoodIn wsX9_covered (wsV RX9 129 RX9 yX9_functionAt wsX9_functionAt) := goodIn_app (goodIn_of _ (by decide +kernel)) ggX9_covered_X9_functionAt
set_option maxRecDepth 20000 in
theorem ggX9_covered_X5_findHole : GoodIn wsX9_covered wsX5_findHole := goodIn_r _ [13, 14, 15, 16, 17, 18, 19, 20, 12, 21, 22, 23, 24, 25, 26, 27, 28, 29, 30, 31, 32, 33, 34, 35, 36, 37, 38, 39, 40, 41, 42, 43, 44, 45, 46, 47, 48, 49, 50, 51, 52, 53, 54, 55, 56, 57, 58, 59, 60, 61, 62, 63, 64, 65, 66, 67, 68, 69, 70, 71, 72, 73, 74, 75, 76, 77, 78, 79, 80, 81, 82, 83, 84, 85, 86, 87, 88, 89, 90, 91, 92, 93, 94, 95, 96, 97, 98, 99, 100, 101, 102, 103, 104, 105, 106, 107, 108, 109, 110, 111, 112, 113, 126, 127, 128, 129, 130, 131, 132, 133, 134, 135, 136, 137, 138, 139, 140, 141, 142, 143, 144, 145, 146, 147, 148, 149, 150, 151, 152, 153, 154, 155, 156, 157, 158, 159, 160, 161, 162] (by decide +kernel) (by decide +kernel)
set_option maxRecDepth 20000 in
theorem gX9_covered_X5_findHole : GoodIn wsX9_covered (wsV RX9 265 RX5 yX5_findHole wsX5_findHole) := goodIn_app (goodIn_of _ (by decide +kernel)) ggX9_covered_X5_findHole
theorem dX9_covered_0 : decode cX9_covered 0 = .ok (.aload_n 0, 1) := by decide +kernel
theorem dX9_covered_1 : decode cX9_covered 1 = .ok (.iload_n 1, 1) := by decide +kernel
theorem dX9_covered_2 : decode cX9_covered 2 = .ok (.invokevirtual 129, 3) := by decide +kernel
theorem dX9_covered_5 : decode cX9_covered 5 = .ok (.astore_n 2, 1) := by decide +kernel
theorem dX9_covered_6 : decode cX9_covered 6 = .ok (.aload_n 2, 1) := by decide +kernel
theorem dX9_covered_7 : decode cX9_covered 7 = .ok (.ifnonnull 6, 3) := by decide +kernel
theorem dX9_covered_10 : decode cX9_covered 10 = .ok (.bipush (-2), 2) := by decide +kernel
theorem dX9_covered_12 : decode cX9_covered 12 = .ok (.ireturn, 1) := by decide +kernel
theorem dX9_covered_13 : decode cX9_covered 13 = .ok (.aload_n 0, 1) := by decide +kernel
theorem dX9_covered_14 : decode cX9_covered 14 = .ok (.getfield 59, 3) := by decide +kernel
theorem dX9_covered_17 : decode cX9_covered 17 = .ok (.aload_n 2, 1) := by decide +kernel
theorem dX9_covered_18 : decode cX9_covered 18 = .ok (.invokevirtual 265, 3) := by decide +kernel
theorem dX9_covered_21 : decode cX9_covered 21 = .ok (.ifCond .eq 7, 3) := by decide +kernel
theorem dX9_covered_24 : decode cX9_covered 24 = .ok (.iconst 0, 1) := by decide +kernel
theorem dX9_covered_25 : decode cX9_covered 25 = .ok (.goto 4, 3) := by decide +kernel
theorem dX9_covered_28 : decode cX9_covered 28 = .ok (.iconst 1, 1) := by decide +kernel
theorem dX9_covered_29 : decode cX9_covered 29 = .ok (.ireturn, 1) := by decide +kernel
set_option maxRecDepth 20000 in
theorem ggX9_hole_X9_functionAt : GoodIn wsX9_hole wsX9_functionAt := goodIn_r _ [7, 8, 9, 121, 122, 123, 124, 125, 126, 127, 128, 129, 130, 131, 132] (by decide +kernel) (by decide +kernel)
set_option maxRecDepth 20000 in
theorem gX9_hole_X9_functionAt : GoodIn wsX9_hole (wsV RX9 129 RX9 yX9_functionAt wsX9_functionAt) := goodIn_app (goodIn_of _ (by decide +kernel)) ggX9_hole_X9_functionAt
set_option maxRecDepth 20000 in
theorem ggX9_hole_X5_findHole : GoodIn wsX9_hole wsX5_findHole := goodIn_r _ [14, 15, 16, 17, 18, 19, 20, 21, 13, 22, 23, 24, 25, 26, 27, 28, 29, 30, 31, 32, 33, 34, 35, 36, 37, 38, 39, 40, 41, 42, 43, 44, 45, 46, 47, 48, 49, 50, 51, 52, 53, 54, 55, 56, 57, 58, 59, 60, 61, 62, 63, 64, 65, 66, 67, 68, 69, 70, 71, 72, 73, 74, 75, 76, 77, 78, 79, 80, 81, 82, 83, 84, 85, 86, 87, 88, 89, 90, 91, 92, 93, 94, 95, 96, 97, 98, 99, 100, 101, 102, 103, 104, 105, 106, 107, 108, 109, 110, 111, 112, 113, 114, 133, 134, 135, 136, 137, 138, 139, 140, 141, 142, 143, 144, 145, 146, 147, 148, 149, 150, 151, 152, 153, 154, 155, 156, 157, 158, 159, 160, 161, 162, 163, 164, 165, 166, 167, 168, 169] (by decide +kernel) (by decide +kernel)
set_option maxRecDepth 20000 in
theorem gX9_hole_X5_findHole : GoodIn wsX9_hole (wsV RX9 265 RX5 yX5_findHole wsX5_findHole) := goodIn_app (goodIn_of _ (by decide +kernel)) ggX9_hole_X5_findHole
set_option maxRecDepth 20000 in
theorem ggX9_hole_X5_partOfTuple : GoodIn wsX9_hole wsX5_partOfTuple := goodIn_r _ [118, 15, 119, 113, 17, 114, 120, 133, 134, 135, 136, 137, 138, 139, 140, 141, 142, 143, 144, 145] (by decide +kernel) (by decide +kernel)
set_option maxRecDepth 20000 in
theorem gX9_hole_X5_partOfTuple : GoodIn wsX9_hole (wsV RX9 270 RX5 yX5_partOfTuple wsX5_partOfTuple) := goodIn_app (goodIn_of _ (by decide +kernel)) ggX9_hole_X5_partOfTuple
theorem dX9_hole_0 : decode cX9_hole 0 = .ok (.aload_n 0, 1) := by decide +kernel
theorem dX9_hole_1 : decode cX9_hole 1 = .ok (.iload_n 1, 1) := by decide +kernel
theorem dX9_hole_2 : decode cX9_hole 2 = .ok (.invokevirtual 129, 3) := by decide +kernel
theorem dX9_hole_5 : decode cX9_hole 5 = .ok (.astore_n 3, 1) := by decide +kernel
theorem dX9_hole_6 : decode cX9_hole 6 = .ok (.aload_n 3, 1) := by decide +kernel
theorem dX9_hole_7 : decode cX9_hole 7 = .ok (.ifnull 23, 3) := by decide +kernel
theorem dX9_hole_10 : decode cX9_hole 10 = .ok (.iload_n 2, 1) := by decide +kernel
theorem dX9_hole_11 : decode cX9_hole 11 = .ok (.ifCond .lt 19, 3) := by decide +kernel
theorem dX9_hole_14 : decode cX9_hole 14 = .ok (.iload_n 2, 1) := by decide +kernel
theorem dX9_hole_15 : decode cX9_hole 15 = .ok (.iconst 3, 1) := by decide +kernel
theorem dX9_hole_16 : decode cX9_hole 16 = .ok (.if_icmp .gt 14, 3) := by decide +kernel
theorem dX9_hole_19 : decode cX9_hole 19 = .ok (.aload_n 0, 1) := by decide +kernel
theorem dX9_hole_20 : decode cX9_hole 20 = .ok (.getfield 59, 3) := by decide +kernel
