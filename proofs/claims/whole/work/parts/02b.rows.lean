theorem dX9_handler_69 : decode cX9_handler 69 = .ok (.iadd, 1) := by decide +kernel
theorem dX9_handler_70 : decode cX9_handler 70 = .ok (.putfield 67, 3) := by decide +kernel
theorem dX9_handler_73 : decode cX9_handler 73 = .ok (.aload_n 0, 1) := by decide +kernel
theorem dX9_handler_74 : decode cX9_handler 74 = .ok (.getfield 67, 3) := by decide +kernel
theorem dX9_handler_77 : decode cX9_handler 77 = .ok (.iconst 1, 1) := by decide +kernel
theorem dX9_handler_78 : decode cX9_handler 78 = .ok (.isub, 1) := by decide +kernel
theorem dX9_handler_79 : decode cX9_handler 79 = .ok (.ireturn, 1) := by decide +kernel
theorem dX9_place_0 : decode cX9_place 0 = .ok (.aload_n 0, 1) := by decide +kernel
theorem dX9_place_1 : decode cX9_place 1 = .ok (.iload_n 1, 1) := by decide +kernel
theorem dX9_place_2 : decode cX9_place 2 = .ok (.invokevirtual 136, 3) := by decide +kernel
theorem dX9_place_5 : decode cX9_place 5 = .ok (.astore 4, 2) := by decide +kernel
theorem dX9_place_7 : decode cX9_place 7 = .ok (.aload 4, 2) := by decide +kernel
theorem dX9_place_9 : decode cX9_place 9 = .ok (.ifnull 27, 3) := by decide +kernel
theorem dX9_place_12 : decode cX9_place 12 = .ok (.aload 4, 2) := by decide +kernel
theorem dX9_place_14 : decode cX9_place 14 = .ok (.getfield 140, 3) := by decide +kernel
theorem dX9_place_17 : decode cX9_place 17 = .ok (.iload_n 2, 1) := by decide +kernel
theorem dX9_place_18 : decode cX9_place 18 = .ok (.invokevirtual 144, 3) := by decide +kernel
theorem dX9_place_21 : decode cX9_place 21 = .ok (.ifCond .eq 15, 3) := by decide +kernel
theorem dX9_place_24 : decode cX9_place 24 = .ok (.iload_n 3, 1) := by decide +kernel
theorem dX9_place_25 : decode cX9_place 25 = .ok (.iconst (-1), 1) := by decide +kernel
theorem dX9_place_26 : decode cX9_place 26 = .ok (.if_icmp .eq 13, 3) := by decide +kernel
theorem dX9_place_29 : decode cX9_place 29 = .ok (.iload_n 3, 1) := by decide +kernel
theorem dX9_place_30 : decode cX9_place 30 = .ok (.invokestatic 104, 3) := by decide +kernel
theorem dX9_place_33 : decode cX9_place 33 = .ok (.ifCond .ne 6, 3) := by decide +kernel
theorem dX9_place_36 : decode cX9_place 36 = .ok (.bipush (-2), 2) := by decide +kernel
theorem dX9_place_38 : decode cX9_place 38 = .ok (.ireturn, 1) := by decide +kernel
theorem dX9_place_39 : decode cX9_place 39 = .ok (.aload 4, 2) := by decide +kernel
theorem dX9_place_41 : decode cX9_place 41 = .ok (.getfield 147, 3) := by decide +kernel
theorem dX9_place_44 : decode cX9_place 44 = .ok (.ifCond .eq 6, 3) := by decide +kernel
theorem dX9_place_47 : decode cX9_place 47 = .ok (.bipush (-3), 2) := by decide +kernel
theorem dX9_place_49 : decode cX9_place 49 = .ok (.ireturn, 1) := by decide +kernel
theorem dX9_place_50 : decode cX9_place 50 = .ok (.aload 4, 2) := by decide +kernel
theorem dX9_place_52 : decode cX9_place 52 = .ok (.getfield 150, 3) := by decide +kernel
theorem dX9_place_55 : decode cX9_place 55 = .ok (.iload_n 2, 1) := by decide +kernel
theorem dX9_place_56 : decode cX9_place 56 = .ok (.iload_n 3, 1) := by decide +kernel
theorem dX9_place_57 : decode cX9_place 57 = .ok (.iastore, 1) := by decide +kernel
theorem dX9_place_58 : decode cX9_place 58 = .ok (.iconst 1, 1) := by decide +kernel
theorem dX9_place_59 : decode cX9_place 59 = .ok (.ireturn, 1) := by decide +kernel
theorem dX9_test_0 : decode cX9_test 0 = .ok (.aload_n 0, 1) := by decide +kernel
theorem dX9_test_1 : decode cX9_test 1 = .ok (.iload_n 1, 1) := by decide +kernel
theorem dX9_test_2 : decode cX9_test 2 = .ok (.invokevirtual 136, 3) := by decide +kernel
theorem dX9_test_5 : decode cX9_test 5 = .ok (.astore 5, 2) := by decide +kernel
theorem dX9_test_7 : decode cX9_test 7 = .ok (.aload 5, 2) := by decide +kernel
theorem dX9_test_9 : decode cX9_test 9 = .ok (.ifnull 21, 3) := by decide +kernel
theorem dX9_test_12 : decode cX9_test 12 = .ok (.aload 5, 2) := by decide +kernel
theorem dX9_test_14 : decode cX9_test 14 = .ok (.getfield 140, 3) := by decide +kernel
theorem dX9_test_17 : decode cX9_test 17 = .ok (.iload_n 2, 1) := by decide +kernel
theorem dX9_test_18 : decode cX9_test 18 = .ok (.invokevirtual 144, 3) := by decide +kernel
theorem dX9_test_21 : decode cX9_test 21 = .ok (.ifCond .eq 9, 3) := by decide +kernel
theorem dX9_test_24 : decode cX9_test 24 = .ok (.iload_n 3, 1) := by decide +kernel
theorem dX9_test_25 : decode cX9_test 25 = .ok (.iload 4, 2) := by decide +kernel
theorem dX9_test_27 : decode cX9_test 27 = .ok (.if_icmp .le 6, 3) := by decide +kernel
theorem dX9_test_30 : decode cX9_test 30 = .ok (.bipush (-2), 2) := by decide +kernel
theorem dX9_test_32 : decode cX9_test 32 = .ok (.ireturn, 1) := by decide +kernel
theorem dX9_test_33 : decode cX9_test 33 = .ok (.aload 5, 2) := by decide +kernel
theorem dX9_test_35 : decode cX9_test 35 = .ok (.getfield 147, 3) := by decide +kernel
theorem dX9_test_38 : decode cX9_test 38 = .ok (.ifCond .eq 6, 3) := by decide +kernel
theorem dX9_test_41 : decode cX9_test 41 = .ok (.bipush (-3), 2) := by decide +kernel
theorem dX9_test_43 : decode cX9_test 43 = .ok (.ireturn, 1) := by decide +kernel
theorem dX9_test_44 : decode cX9_test 44 = .ok (.aload 5, 2) := by decide +kernel
theorem dX9_test_46 : decode cX9_test 46 = .ok (.getfield 153, 3) := by decide +kernel
theorem dX9_test_49 : decode cX9_test 49 = .ok (.iload_n 2, 1) := by decide +kernel
theorem dX9_test_50 : decode cX9_test 50 = .ok (.iload_n 3, 1) := by decide +kernel
theorem dX9_test_51 : decode cX9_test 51 = .ok (.iastore, 1) := by decide +kernel
theorem dX9_test_52 : decode cX9_test 52 = .ok (.aload 5, 2) := by decide +kernel
theorem dX9_test_54 : decode cX9_test 54 = .ok (.getfield 156, 3) := by decide +kernel
theorem dX9_test_57 : decode cX9_test 57 = .ok (.iload_n 2, 1) := by decide +kernel
theorem dX9_test_58 : decode cX9_test 58 = .ok (.iload 4, 2) := by decide +kernel
theorem dX9_test_60 : decode cX9_test 60 = .ok (.iastore, 1) := by decide +kernel
theorem dX9_test_61 : decode cX9_test 61 = .ok (.iconst 1, 1) := by decide +kernel
theorem dX9_test_62 : decode cX9_test 62 = .ok (.ireturn, 1) := by decide +kernel
theorem dX9_lay_0 : decode cX9_lay 0 = .ok (.aload_n 0, 1) := by decide +kernel
theorem dX9_lay_1 : decode cX9_lay 1 = .ok (.iload_n 1, 1) := by decide +kernel
theorem dX9_lay_2 : decode cX9_lay 2 = .ok (.invokevirtual 136, 3) := by decide +kernel
theorem dX9_lay_5 : decode cX9_lay 5 = .ok (.astore_n 2, 1) := by decide +kernel
theorem dX9_lay_6 : decode cX9_lay 6 = .ok (.aload_n 2, 1) := by decide +kernel
theorem dX9_lay_7 : decode cX9_lay 7 = .ok (.ifnonnull 6, 3) := by decide +kernel
theorem dX9_lay_10 : decode cX9_lay 10 = .ok (.bipush (-2), 2) := by decide +kernel
theorem dX9_lay_12 : decode cX9_lay 12 = .ok (.ireturn, 1) := by decide +kernel
theorem dX9_lay_13 : decode cX9_lay 13 = .ok (.aload_n 2, 1) := by decide +kernel
theorem dX9_lay_14 : decode cX9_lay 14 = .ok (.getfield 140, 3) := by decide +kernel
theorem dX9_lay_17 : decode cX9_lay 17 = .ok (.astore_n 3, 1) := by decide +kernel
theorem dX9_lay_18 : decode cX9_lay 18 = .ok (.aload_n 2, 1) := by decide +kernel
theorem dX9_lay_19 : decode cX9_lay 19 = .ok (.getfield 147, 3) := by decide +kernel
theorem dX9_lay_22 : decode cX9_lay 22 = .ok (.ifCond .ne 10, 3) := by decide +kernel
theorem dX9_lay_25 : decode cX9_lay 25 = .ok (.aload_n 3, 1) := by decide +kernel
theorem dX9_lay_26 : decode cX9_lay 26 = .ok (.getfield 159, 3) := by decide +kernel
theorem dX9_lay_29 : decode cX9_lay 29 = .ok (.ifCond .eq 6, 3) := by decide +kernel
theorem dX9_lay_32 : decode cX9_lay 32 = .ok (.bipush (-3), 2) := by decide +kernel
theorem dX9_lay_34 : decode cX9_lay 34 = .ok (.ireturn, 1) := by decide +kernel
theorem dX9_lay_35 : decode cX9_lay 35 = .ok (.aload_n 3, 1) := by decide +kernel
theorem dX9_lay_36 : decode cX9_lay 36 = .ok (.aload_n 2, 1) := by decide +kernel
theorem dX9_lay_37 : decode cX9_lay 37 = .ok (.invokevirtual 162, 3) := by decide +kernel
theorem dX9_lay_40 : decode cX9_lay 40 = .ok (.ifCond .eq 6, 3) := by decide +kernel
theorem dX9_lay_43 : decode cX9_lay 43 = .ok (.bipush (-5), 2) := by decide +kernel
theorem dX9_lay_45 : decode cX9_lay 45 = .ok (.ireturn, 1) := by decide +kernel
theorem dX9_lay_46 : decode cX9_lay 46 = .ok (.aload_n 3, 1) := by decide +kernel
theorem dX9_lay_47 : decode cX9_lay 47 = .ok (.aload_n 2, 1) := by decide +kernel
theorem dX9_lay_48 : decode cX9_lay 48 = .ok (.invokevirtual 166, 3) := by decide +kernel
theorem dX9_lay_51 : decode cX9_lay 51 = .ok (.ifCond .ne 6, 3) := by decide +kernel
theorem dX9_lay_54 : decode cX9_lay 54 = .ok (.bipush (-4), 2) := by decide +kernel
theorem dX9_lay_56 : decode cX9_lay 56 = .ok (.ireturn, 1) := by decide +kernel
theorem dX9_lay_57 : decode cX9_lay 57 = .ok (.aload_n 2, 1) := by decide +kernel
theorem dX9_lay_58 : decode cX9_lay 58 = .ok (.iconst 1, 1) := by decide +kernel
theorem dX9_lay_59 : decode cX9_lay 59 = .ok (.putfield 147, 3) := by decide +kernel
theorem dX9_lay_62 : decode cX9_lay 62 = .ok (.iconst 1, 1) := by decide +kernel
theorem dX9_lay_63 : decode cX9_lay 63 = .ok (.ireturn, 1) := by decide +kernel
theorem dX9_lift_0 : decode cX9_lift 0 = .ok (.aload_n 0, 1) := by decide +kernel
theorem dX9_lift_1 : decode cX9_lift 1 = .ok (.iload_n 1, 1) := by decide +kernel
theorem dX9_lift_2 : decode cX9_lift 2 = .ok (.invokevirtual 136, 3) := by decide +kernel
theorem dX9_lift_5 : decode cX9_lift 5 = .ok (.astore_n 2, 1) := by decide +kernel
theorem dX9_lift_6 : decode cX9_lift 6 = .ok (.aload_n 2, 1) := by decide +kernel
theorem dX9_lift_7 : decode cX9_lift 7 = .ok (.ifnonnull 6, 3) := by decide +kernel
theorem dX9_lift_10 : decode cX9_lift 10 = .ok (.bipush (-2), 2) := by decide +kernel
theorem dX9_lift_12 : decode cX9_lift 12 = .ok (.ireturn, 1) := by decide +kernel
theorem dX9_lift_13 : decode cX9_lift 13 = .ok (.aload_n 2, 1) := by decide +kernel
theorem dX9_lift_14 : decode cX9_lift 14 = .ok (.getfield 147, 3) := by decide +kernel
theorem dX9_lift_17 : decode cX9_lift 17 = .ok (.iconst 1, 1) := by decide +kernel
theorem dX9_lift_18 : decode cX9_lift 18 = .ok (.if_icmp .ne 13, 3) := by decide +kernel
theorem dX9_lift_21 : decode cX9_lift 21 = .ok (.aload_n 2, 1) := by decide +kernel
theorem dX9_lift_22 : decode cX9_lift 22 = .ok (.getfield 140, 3) := by decide +kernel
theorem dX9_lift_25 : decode cX9_lift 25 = .ok (.getfield 159, 3) := by decide +kernel
theorem dX9_lift_28 : decode cX9_lift 28 = .ok (.ifCond .eq 6, 3) := by decide +kernel
theorem dX9_lift_31 : decode cX9_lift 31 = .ok (.bipush (-3), 2) := by decide +kernel
theorem dX9_lift_33 : decode cX9_lift 33 = .ok (.ireturn, 1) := by decide +kernel
theorem dX9_lift_34 : decode cX9_lift 34 = .ok (.aload_n 2, 1) := by decide +kernel
theorem dX9_lift_35 : decode cX9_lift 35 = .ok (.iconst 2, 1) := by decide +kernel
theorem dX9_lift_36 : decode cX9_lift 36 = .ok (.putfield 147, 3) := by decide +kernel
theorem dX9_lift_39 : decode cX9_lift 39 = .ok (.aload_n 2, 1) := by decide +kernel
theorem dX9_lift_40 : decode cX9_lift 40 = .ok (.getfield 140, 3) := by decide +kernel
theorem dX9_lift_43 : decode cX9_lift 43 = .ok (.aload_n 2, 1) := by decide +kernel
theorem dX9_lift_44 : decode cX9_lift 44 = .ok (.invokevirtual 169, 3) := by decide +kernel
theorem dX9_lift_47 : decode cX9_lift 47 = .ok (.iconst 1, 1) := by decide +kernel
theorem dX9_lift_48 : decode cX9_lift 48 = .ok (.ireturn, 1) := by decide +kernel
theorem dX9_freeze_0 : decode cX9_freeze 0 = .ok (.aload_n 0, 1) := by decide +kernel
theorem dX9_freeze_1 : decode cX9_freeze 1 = .ok (.iload_n 1, 1) := by decide +kernel
theorem dX9_freeze_2 : decode cX9_freeze 2 = .ok (.invokevirtual 129, 3) := by decide +kernel
theorem dX9_freeze_5 : decode cX9_freeze 5 = .ok (.astore_n 3, 1) := by decide +kernel
theorem dX9_freeze_6 : decode cX9_freeze 6 = .ok (.aload_n 3, 1) := by decide +kernel
theorem dX9_freeze_7 : decode cX9_freeze 7 = .ok (.ifnonnull 6, 3) := by decide +kernel
theorem dX9_freeze_10 : decode cX9_freeze 10 = .ok (.bipush (-2), 2) := by decide +kernel
theorem dX9_freeze_12 : decode cX9_freeze 12 = .ok (.ireturn, 1) := by decide +kernel
theorem dX9_freeze_13 : decode cX9_freeze 13 = .ok (.aload_n 3, 1) := by decide +kernel
theorem dX9_freeze_14 : decode cX9_freeze 14 = .ok (.getfield 159, 3) := by decide +kernel
theorem dX9_freeze_17 : decode cX9_freeze 17 = .ok (.iload_n 2, 1) := by decide +kernel
theorem dX9_freeze_18 : decode cX9_freeze 18 = .ok (.if_icmp .ne 5, 3) := by decide +kernel
theorem dX9_freeze_21 : decode cX9_freeze 21 = .ok (.iconst 0, 1) := by decide +kernel
theorem dX9_freeze_22 : decode cX9_freeze 22 = .ok (.ireturn, 1) := by decide +kernel
theorem dX9_freeze_23 : decode cX9_freeze 23 = .ok (.aload_n 3, 1) := by decide +kernel
theorem dX9_freeze_24 : decode cX9_freeze 24 = .ok (.iload_n 2, 1) := by decide +kernel
theorem dX9_freeze_25 : decode cX9_freeze 25 = .ok (.putfield 159, 3) := by decide +kernel
theorem dX9_freeze_28 : decode cX9_freeze 28 = .ok (.iconst 1, 1) := by decide +kernel
theorem dX9_freeze_29 : decode cX9_freeze 29 = .ok (.ireturn, 1) := by decide +kernel
theorem dX9_about_0 : decode cX9_about 0 = .ok (.aload_n 0, 1) := by decide +kernel
theorem dX9_about_1 : decode cX9_about 1 = .ok (.iload_n 1, 1) := by decide +kernel
theorem dX9_about_2 : decode cX9_about 2 = .ok (.invokevirtual 136, 3) := by decide +kernel
theorem dX9_about_5 : decode cX9_about 5 = .ok (.astore_n 3, 1) := by decide +kernel
theorem dX9_about_6 : decode cX9_about 6 = .ok (.aload_n 3, 1) := by decide +kernel
theorem dX9_about_7 : decode cX9_about 7 = .ok (.ifnonnull 6, 3) := by decide +kernel
theorem dX9_about_10 : decode cX9_about 10 = .ok (.bipush (-2), 2) := by decide +kernel
theorem dX9_about_12 : decode cX9_about 12 = .ok (.ireturn, 1) := by decide +kernel
theorem dX9_about_13 : decode cX9_about 13 = .ok (.iload_n 2, 1) := by decide +kernel
theorem dX9_about_14 : decode cX9_about 14 = .ok (.tableswitch 129 0 10 #[58, 66, 71, 76, 89, 94, 94, 105, 105, 117, 117], 58) := by decide +kernel
theorem dX9_about_72 : decode cX9_about 72 = .ok (.aload_n 3, 1) := by decide +kernel
theorem dX9_about_73 : decode cX9_about 73 = .ok (.getfield 140, 3) := by decide +kernel
theorem dX9_about_76 : decode cX9_about 76 = .ok (.getfield 173, 3) := by decide +kernel
theorem dX9_about_79 : decode cX9_about 79 = .ok (.ireturn, 1) := by decide +kernel
theorem dX9_about_80 : decode cX9_about 80 = .ok (.aload_n 3, 1) := by decide +kernel
theorem dX9_about_81 : decode cX9_about 81 = .ok (.getfield 176, 3) := by decide +kernel
theorem dX9_about_84 : decode cX9_about 84 = .ok (.ireturn, 1) := by decide +kernel
theorem dX9_about_85 : decode cX9_about 85 = .ok (.aload_n 3, 1) := by decide +kernel
theorem dX9_about_86 : decode cX9_about 86 = .ok (.getfield 179, 3) := by decide +kernel
theorem dX9_about_89 : decode cX9_about 89 = .ok (.ireturn, 1) := by decide +kernel
theorem dX9_about_90 : decode cX9_about 90 = .ok (.aload_n 3, 1) := by decide +kernel
theorem dX9_about_91 : decode cX9_about 91 = .ok (.getfield 182, 3) := by decide +kernel
theorem dX9_about_94 : decode cX9_about 94 = .ok (.ifCond .eq 7, 3) := by decide +kernel
theorem dX9_about_97 : decode cX9_about 97 = .ok (.iconst 1, 1) := by decide +kernel
theorem dX9_about_98 : decode cX9_about 98 = .ok (.goto 4, 3) := by decide +kernel
theorem dX9_about_101 : decode cX9_about 101 = .ok (.iconst 0, 1) := by decide +kernel
theorem dX9_about_102 : decode cX9_about 102 = .ok (.ireturn, 1) := by decide +kernel
theorem dX9_about_103 : decode cX9_about 103 = .ok (.aload_n 3, 1) := by decide +kernel
theorem dX9_about_104 : decode cX9_about 104 = .ok (.getfield 147, 3) := by decide +kernel
theorem dX9_about_107 : decode cX9_about 107 = .ok (.ireturn, 1) := by decide +kernel
theorem dX9_about_108 : decode cX9_about 108 = .ok (.aload_n 3, 1) := by decide +kernel
theorem dX9_about_109 : decode cX9_about 109 = .ok (.getfield 150, 3) := by decide +kernel
theorem dX9_about_112 : decode cX9_about 112 = .ok (.iload_n 2, 1) := by decide +kernel
theorem dX9_about_113 : decode cX9_about 113 = .ok (.iconst 5, 1) := by decide +kernel
theorem dX9_about_114 : decode cX9_about 114 = .ok (.isub, 1) := by decide +kernel
theorem dX9_about_115 : decode cX9_about 115 = .ok (.invokestatic 185, 3) := by decide +kernel
theorem dX9_about_118 : decode cX9_about 118 = .ok (.ireturn, 1) := by decide +kernel
theorem dX9_about_119 : decode cX9_about 119 = .ok (.aload_n 3, 1) := by decide +kernel
theorem dX9_about_120 : decode cX9_about 120 = .ok (.getfield 153, 3) := by decide +kernel
theorem dX9_about_123 : decode cX9_about 123 = .ok (.iload_n 2, 1) := by decide +kernel
theorem dX9_about_124 : decode cX9_about 124 = .ok (.bipush 7, 2) := by decide +kernel
theorem dX9_about_126 : decode cX9_about 126 = .ok (.isub, 1) := by decide +kernel
theorem dX9_about_127 : decode cX9_about 127 = .ok (.invokestatic 185, 3) := by decide +kernel
theorem dX9_about_130 : decode cX9_about 130 = .ok (.ireturn, 1) := by decide +kernel
theorem dX9_about_131 : decode cX9_about 131 = .ok (.aload_n 3, 1) := by decide +kernel
theorem dX9_about_132 : decode cX9_about 132 = .ok (.getfield 156, 3) := by decide +kernel
theorem dX9_about_135 : decode cX9_about 135 = .ok (.iload_n 2, 1) := by decide +kernel
theorem dX9_about_136 : decode cX9_about 136 = .ok (.bipush 9, 2) := by decide +kernel
theorem dX9_about_138 : decode cX9_about 138 = .ok (.isub, 1) := by decide +kernel
theorem dX9_about_139 : decode cX9_about 139 = .ok (.invokestatic 185, 3) := by decide +kernel
theorem dX9_about_142 : decode cX9_about 142 = .ok (.ireturn, 1) := by decide +kernel
theorem dX9_about_143 : decode cX9_about 143 = .ok (.bipush (-2), 2) := by decide +kernel
theorem dX9_about_145 : decode cX9_about 145 = .ok (.ireturn, 1) := by decide +kernel
theorem dX9_dominates_0 : decode cX9_dominates 0 = .ok (.aload_n 0, 1) := by decide +kernel
theorem dX9_dominates_1 : decode cX9_dominates 1 = .ok (.iload_n 1, 1) := by decide +kernel
theorem dX9_dominates_2 : decode cX9_dominates 2 = .ok (.invokevirtual 136, 3) := by decide +kernel
theorem dX9_dominates_5 : decode cX9_dominates 5 = .ok (.astore_n 3, 1) := by decide +kernel
theorem dX9_dominates_6 : decode cX9_dominates 6 = .ok (.aload_n 0, 1) := by decide +kernel
theorem dX9_dominates_7 : decode cX9_dominates 7 = .ok (.iload_n 2, 1) := by decide +kernel
theorem dX9_dominates_8 : decode cX9_dominates 8 = .ok (.invokevirtual 136, 3) := by decide +kernel
theorem dX9_dominates_11 : decode cX9_dominates 11 = .ok (.astore 4, 2) := by decide +kernel
theorem dX9_dominates_13 : decode cX9_dominates 13 = .ok (.aload_n 3, 1) := by decide +kernel
theorem dX9_dominates_14 : decode cX9_dominates 14 = .ok (.ifnull 39, 3) := by decide +kernel
theorem dX9_dominates_17 : decode cX9_dominates 17 = .ok (.aload 4, 2) := by decide +kernel
theorem dX9_dominates_19 : decode cX9_dominates 19 = .ok (.ifnull 34, 3) := by decide +kernel
theorem dX9_dominates_22 : decode cX9_dominates 22 = .ok (.aload_n 3, 1) := by decide +kernel
theorem dX9_dominates_23 : decode cX9_dominates 23 = .ok (.getfield 140, 3) := by decide +kernel
theorem dX9_dominates_26 : decode cX9_dominates 26 = .ok (.getfield 173, 3) := by decide +kernel
theorem dX9_dominates_29 : decode cX9_dominates 29 = .ok (.aload 4, 2) := by decide +kernel
theorem dX9_dominates_31 : decode cX9_dominates 31 = .ok (.getfield 140, 3) := by decide +kernel
theorem dX9_dominates_34 : decode cX9_dominates 34 = .ok (.getfield 173, 3) := by decide +kernel
theorem dX9_dominates_37 : decode cX9_dominates 37 = .ok (.if_icmp .ne 16, 3) := by decide +kernel
theorem dX9_dominates_40 : decode cX9_dominates 40 = .ok (.aload_n 3, 1) := by decide +kernel
theorem dX9_dominates_41 : decode cX9_dominates 41 = .ok (.aload 4, 2) := by decide +kernel
theorem dX9_dominates_43 : decode cX9_dominates 43 = .ok (.invokevirtual 189, 3) := by decide +kernel
theorem dX9_dominates_46 : decode cX9_dominates 46 = .ok (.ifCond .eq 7, 3) := by decide +kernel
theorem dX9_dominates_49 : decode cX9_dominates 49 = .ok (.iconst 1, 1) := by decide +kernel
theorem dX9_dominates_50 : decode cX9_dominates 50 = .ok (.goto 4, 3) := by decide +kernel
theorem dX9_dominates_53 : decode cX9_dominates 53 = .ok (.iconst 0, 1) := by decide +kernel
theorem dX9_dominates_54 : decode cX9_dominates 54 = .ok (.ireturn, 1) := by decide +kernel
theorem dX9_order_0 : decode cX9_order 0 = .ok (.aload_n 0, 1) := by decide +kernel
theorem dX9_order_1 : decode cX9_order 1 = .ok (.iload_n 1, 1) := by decide +kernel
theorem dX9_order_2 : decode cX9_order 2 = .ok (.invokevirtual 129, 3) := by decide +kernel
theorem dX9_order_5 : decode cX9_order 5 = .ok (.astore_n 3, 1) := by decide +kernel
theorem dX9_order_6 : decode cX9_order 6 = .ok (.aload_n 3, 1) := by decide +kernel
theorem dX9_order_7 : decode cX9_order 7 = .ok (.ifnull 15, 3) := by decide +kernel
theorem dX9_order_10 : decode cX9_order 10 = .ok (.iload_n 2, 1) := by decide +kernel
theorem dX9_order_11 : decode cX9_order 11 = .ok (.ifCond .lt 11, 3) := by decide +kernel
theorem dX9_order_14 : decode cX9_order 14 = .ok (.iload_n 2, 1) := by decide +kernel
theorem dX9_order_15 : decode cX9_order 15 = .ok (.aload_n 3, 1) := by decide +kernel
theorem dX9_order_16 : decode cX9_order 16 = .ok (.getfield 192, 3) := by decide +kernel
theorem dX9_order_19 : decode cX9_order 19 = .ok (.if_icmp .lt 5, 3) := by decide +kernel
theorem dX9_order_22 : decode cX9_order 22 = .ok (.iconst (-1), 1) := by decide +kernel
theorem dX9_order_23 : decode cX9_order 23 = .ok (.ireturn, 1) := by decide +kernel
theorem dX9_order_24 : decode cX9_order 24 = .ok (.aload_n 3, 1) := by decide +kernel
theorem dX9_order_25 : decode cX9_order 25 = .ok (.aload_n 3, 1) := by decide +kernel
theorem dX9_order_26 : decode cX9_order 26 = .ok (.getfield 195, 3) := by decide +kernel
theorem dX9_order_29 : decode cX9_order 29 = .ok (.iload_n 2, 1) := by decide +kernel
theorem dX9_order_30 : decode cX9_order 30 = .ok (.iaload, 1) := by decide +kernel
theorem dX9_order_31 : decode cX9_order 31 = .ok (.invokevirtual 198, 3) := by decide +kernel
theorem dX9_order_34 : decode cX9_order 34 = .ok (.ireturn, 1) := by decide +kernel
theorem dX9_arg_0 : decode cX9_arg 0 = .ok (.iload_n 1, 1) := by decide +kernel
theorem dX9_arg_1 : decode cX9_arg 1 = .ok (.ifCond .lt 19, 3) := by decide +kernel
theorem dX9_arg_4 : decode cX9_arg 4 = .ok (.iload_n 1, 1) := by decide +kernel
theorem dX9_arg_5 : decode cX9_arg 5 = .ok (.iconst 2, 1) := by decide +kernel
theorem dX9_arg_6 : decode cX9_arg 6 = .ok (.if_icmp .ge 14, 3) := by decide +kernel
theorem dX9_arg_9 : decode cX9_arg 9 = .ok (.aload_n 0, 1) := by decide +kernel
theorem dX9_arg_10 : decode cX9_arg 10 = .ok (.getfield 19, 3) := by decide +kernel
theorem dX9_arg_13 : decode cX9_arg 13 = .ok (.iload_n 2, 1) := by decide +kernel
theorem dX9_arg_14 : decode cX9_arg 14 = .ok (.invokevirtual 114, 3) := by decide +kernel
theorem dX9_arg_17 : decode cX9_arg 17 = .ok (.ifCond .ne 6, 3) := by decide +kernel
theorem dX9_arg_20 : decode cX9_arg 20 = .ok (.bipush (-2), 2) := by decide +kernel
theorem dX9_arg_22 : decode cX9_arg 22 = .ok (.ireturn, 1) := by decide +kernel
theorem dX9_arg_23 : decode cX9_arg 23 = .ok (.aload_n 0, 1) := by decide +kernel
theorem dX9_arg_24 : decode cX9_arg 24 = .ok (.getfield 35, 3) := by decide +kernel
theorem dX9_arg_27 : decode cX9_arg 27 = .ok (.iload_n 1, 1) := by decide +kernel
theorem dX9_arg_28 : decode cX9_arg 28 = .ok (.iload_n 2, 1) := by decide +kernel
theorem dX9_arg_29 : decode cX9_arg 29 = .ok (.iastore, 1) := by decide +kernel
theorem dX9_arg_30 : decode cX9_arg 30 = .ok (.iconst 1, 1) := by decide +kernel
theorem dX9_arg_31 : decode cX9_arg 31 = .ok (.ireturn, 1) := by decide +kernel
theorem dX9_call_0 : decode cX9_call 0 = .ok (.aload_n 0, 1) := by decide +kernel
theorem dX9_call_1 : decode cX9_call 1 = .ok (.iload_n 1, 1) := by decide +kernel
theorem dX9_call_2 : decode cX9_call 2 = .ok (.invokevirtual 129, 3) := by decide +kernel
theorem dX9_call_5 : decode cX9_call 5 = .ok (.astore_n 2, 1) := by decide +kernel
theorem dX9_call_6 : decode cX9_call 6 = .ok (.aload_n 2, 1) := by decide +kernel
theorem dX9_call_7 : decode cX9_call 7 = .ok (.ifnonnull 6, 3) := by decide +kernel
theorem dX9_call_10 : decode cX9_call 10 = .ok (.bipush (-2), 2) := by decide +kernel
theorem dX9_call_12 : decode cX9_call 12 = .ok (.ireturn, 1) := by decide +kernel
theorem dX9_call_13 : decode cX9_call 13 = .ok (.aload_n 0, 1) := by decide +kernel
theorem dX9_call_14 : decode cX9_call 14 = .ok (.aload_n 2, 1) := by decide +kernel
theorem dX9_call_15 : decode cX9_call 15 = .ok (.invokevirtual 202, 3) := by decide +kernel
theorem dX9_call_18 : decode cX9_call 18 = .ok (.ifCond .ne 6, 3) := by decide +kernel
theorem dX9_call_21 : decode cX9_call 21 = .ok (.bipush (-3), 2) := by decide +kernel
theorem dX9_call_23 : decode cX9_call 23 = .ok (.ireturn, 1) := by decide +kernel
theorem dX9_call_24 : decode cX9_call 24 = .ok (.aload_n 0, 1) := by decide +kernel
theorem dX9_call_25 : decode cX9_call 25 = .ok (.getfield 52, 3) := by decide +kernel
theorem dX9_call_28 : decode cX9_call 28 = .ok (.invokevirtual 206, 3) := by decide +kernel
theorem dX9_call_31 : decode cX9_call 31 = .ok (.aload_n 2, 1) := by decide +kernel
theorem dX9_call_32 : decode cX9_call 32 = .ok (.astore_n 3, 1) := by decide +kernel
theorem dX9_call_33 : decode cX9_call 33 = .ok (.iconst 1, 1) := by decide +kernel
theorem dX9_call_34 : decode cX9_call 34 = .ok (.istore 4, 2) := by decide +kernel
theorem dX9_call_36 : decode cX9_call 36 = .ok (.aload_n 3, 1) := by decide +kernel
theorem dX9_call_37 : decode cX9_call 37 = .ok (.ifnull 31, 3) := by decide +kernel
theorem dX9_call_40 : decode cX9_call 40 = .ok (.iload 4, 2) := by decide +kernel
theorem dX9_call_42 : decode cX9_call 42 = .ok (.bipush 12, 2) := by decide +kernel
theorem dX9_call_44 : decode cX9_call 44 = .ok (.if_icmp .gt 24, 3) := by decide +kernel
theorem dX9_call_47 : decode cX9_call 47 = .ok (.aload_n 0, 1) := by decide +kernel
theorem dX9_call_48 : decode cX9_call 48 = .ok (.getfield 52, 3) := by decide +kernel
theorem dX9_call_51 : decode cX9_call 51 = .ok (.iload 4, 2) := by decide +kernel
theorem dX9_call_53 : decode cX9_call 53 = .ok (.putfield 209, 3) := by decide +kernel
theorem dX9_call_56 : decode cX9_call 56 = .ok (.aload_n 0, 1) := by decide +kernel
theorem dX9_call_57 : decode cX9_call 57 = .ok (.aload_n 3, 1) := by decide +kernel
theorem dX9_call_58 : decode cX9_call 58 = .ok (.invokevirtual 212, 3) := by decide +kernel
theorem dX9_call_61 : decode cX9_call 61 = .ok (.astore_n 3, 1) := by decide +kernel
theorem dX9_call_62 : decode cX9_call 62 = .ok (.iinc 4 1, 3) := by decide +kernel
theorem dX9_call_65 : decode cX9_call 65 = .ok (.goto (-29), 3) := by decide +kernel
theorem dX9_call_68 : decode cX9_call 68 = .ok (.aload_n 3, 1) := by decide +kernel
theorem dX9_call_69 : decode cX9_call 69 = .ok (.ifnull 11, 3) := by decide +kernel
theorem dX9_call_72 : decode cX9_call 72 = .ok (.aload_n 0, 1) := by decide +kernel
theorem dX9_call_73 : decode cX9_call 73 = .ok (.getfield 52, 3) := by decide +kernel
theorem dX9_call_76 : decode cX9_call 76 = .ok (.iconst 4, 1) := by decide +kernel
theorem dX9_call_77 : decode cX9_call 77 = .ok (.putfield 216, 3) := by decide +kernel
theorem dX9_call_80 : decode cX9_call 80 = .ok (.aload_n 0, 1) := by decide +kernel
theorem dX9_call_81 : decode cX9_call 81 = .ok (.getfield 52, 3) := by decide +kernel
theorem dX9_call_84 : decode cX9_call 84 = .ok (.getfield 216, 3) := by decide +kernel
theorem dX9_call_87 : decode cX9_call 87 = .ok (.ireturn, 1) := by decide +kernel
theorem dX9_value_0 : decode cX9_value 0 = .ok (.aload_n 0, 1) := by decide +kernel
theorem dX9_value_1 : decode cX9_value 1 = .ok (.getfield 52, 3) := by decide +kernel
theorem dX9_value_4 : decode cX9_value 4 = .ok (.getfield 216, 3) := by decide +kernel
theorem dX9_value_7 : decode cX9_value 7 = .ok (.ifCond .ne 13, 3) := by decide +kernel
theorem dX9_value_10 : decode cX9_value 10 = .ok (.aload_n 0, 1) := by decide +kernel
theorem dX9_value_11 : decode cX9_value 11 = .ok (.getfield 52, 3) := by decide +kernel
theorem dX9_value_14 : decode cX9_value 14 = .ok (.getfield 219, 3) := by decide +kernel
theorem dX9_value_17 : decode cX9_value 17 = .ok (.goto 4, 3) := by decide +kernel
theorem dX9_value_20 : decode cX9_value 20 = .ok (.lconst 0, 1) := by decide +kernel
theorem dX9_value_21 : decode cX9_value 21 = .ok (.lreturn, 1) := by decide +kernel
theorem dX9_failure_0 : decode cX9_failure 0 = .ok (.aload_n 0, 1) := by decide +kernel
theorem dX9_failure_1 : decode cX9_failure 1 = .ok (.getfield 52, 3) := by decide +kernel
theorem dX9_failure_4 : decode cX9_failure 4 = .ok (.getfield 216, 3) := by decide +kernel
theorem dX9_failure_7 : decode cX9_failure 7 = .ok (.iconst 3, 1) := by decide +kernel
theorem dX9_failure_8 : decode cX9_failure 8 = .ok (.if_icmp .ne 13, 3) := by decide +kernel
theorem dX9_failure_11 : decode cX9_failure 11 = .ok (.aload_n 0, 1) := by decide +kernel
theorem dX9_failure_12 : decode cX9_failure 12 = .ok (.getfield 52, 3) := by decide +kernel
theorem dX9_failure_15 : decode cX9_failure 15 = .ok (.getfield 223, 3) := by decide +kernel
theorem dX9_failure_18 : decode cX9_failure 18 = .ok (.goto 4, 3) := by decide +kernel
theorem dX9_failure_21 : decode cX9_failure 21 = .ok (.iconst 0, 1) := by decide +kernel
theorem dX9_failure_22 : decode cX9_failure 22 = .ok (.ireturn, 1) := by decide +kernel
theorem dX9_step_0 : decode cX9_step 0 = .ok (.iload_n 1, 1) := by decide +kernel
theorem dX9_step_1 : decode cX9_step 1 = .ok (.ifCond .lt 21, 3) := by decide +kernel
theorem dX9_step_4 : decode cX9_step 4 = .ok (.iload_n 1, 1) := by decide +kernel
theorem dX9_step_5 : decode cX9_step 5 = .ok (.aload_n 0, 1) := by decide +kernel
theorem dX9_step_6 : decode cX9_step 6 = .ok (.getfield 52, 3) := by decide +kernel
theorem dX9_step_9 : decode cX9_step 9 = .ok (.getfield 226, 3) := by decide +kernel
theorem dX9_step_12 : decode cX9_step 12 = .ok (.if_icmp .ge 10, 3) := by decide +kernel
theorem dX9_step_15 : decode cX9_step 15 = .ok (.iload_n 1, 1) := by decide +kernel
theorem dX9_step_16 : decode cX9_step 16 = .ok (.sipush 1000, 3) := by decide +kernel
theorem dX9_step_19 : decode cX9_step 19 = .ok (.if_icmp .lt 5, 3) := by decide +kernel
theorem dX9_step_22 : decode cX9_step 22 = .ok (.iconst (-1), 1) := by decide +kernel
theorem dX9_step_23 : decode cX9_step 23 = .ok (.ireturn, 1) := by decide +kernel
theorem dX9_step_24 : decode cX9_step 24 = .ok (.aload_n 0, 1) := by decide +kernel
theorem dX9_step_25 : decode cX9_step 25 = .ok (.getfield 52, 3) := by decide +kernel
theorem dX9_step_28 : decode cX9_step 28 = .ok (.getfield 229, 3) := by decide +kernel
theorem dX9_step_31 : decode cX9_step 31 = .ok (.iload_n 1, 1) := by decide +kernel
theorem dX9_step_32 : decode cX9_step 32 = .ok (.iaload, 1) := by decide +kernel
theorem dX9_step_33 : decode cX9_step 33 = .ok (.ireturn, 1) := by decide +kernel
theorem dX9_counter_0 : decode cX9_counter 0 = .ok (.iload_n 1, 1) := by decide +kernel
theorem dX9_counter_1 : decode cX9_counter 1 = .ok (.ifCond .lt 9, 3) := by decide +kernel
theorem dX9_counter_4 : decode cX9_counter 4 = .ok (.iload_n 1, 1) := by decide +kernel
theorem dX9_counter_5 : decode cX9_counter 5 = .ok (.bipush 8, 2) := by decide +kernel
theorem dX9_counter_7 : decode cX9_counter 7 = .ok (.if_icmp .lt 7, 3) := by decide +kernel
theorem dX9_counter_10 : decode cX9_counter 10 = .ok (.iconst (-1), 1) := by decide +kernel
theorem dX9_counter_11 : decode cX9_counter 11 = .ok (.goto 9, 3) := by decide +kernel
theorem dX9_counter_14 : decode cX9_counter 14 = .ok (.aload_n 0, 1) := by decide +kernel
theorem dX9_counter_15 : decode cX9_counter 15 = .ok (.getfield 39, 3) := by decide +kernel
theorem dX9_counter_18 : decode cX9_counter 18 = .ok (.iload_n 1, 1) := by decide +kernel
theorem dX9_counter_19 : decode cX9_counter 19 = .ok (.iaload, 1) := by decide +kernel
theorem dX9_counter_20 : decode cX9_counter 20 = .ok (.ireturn, 1) := by decide +kernel
theorem dX9_applicable_0 : decode cX9_applicable 0 = .ok (.aload_n 0, 1) := by decide +kernel
theorem dX9_applicable_1 : decode cX9_applicable 1 = .ok (.iload_n 1, 1) := by decide +kernel
theorem dX9_applicable_2 : decode cX9_applicable 2 = .ok (.invokevirtual 129, 3) := by decide +kernel
theorem dX9_applicable_5 : decode cX9_applicable 5 = .ok (.astore_n 3, 1) := by decide +kernel
theorem dX9_applicable_6 : decode cX9_applicable 6 = .ok (.aload_n 3, 1) := by decide +kernel
theorem dX9_applicable_7 : decode cX9_applicable 7 = .ok (.ifnull 11, 3) := by decide +kernel
theorem dX9_applicable_10 : decode cX9_applicable 10 = .ok (.aload_n 0, 1) := by decide +kernel
theorem dX9_applicable_11 : decode cX9_applicable 11 = .ok (.aload_n 3, 1) := by decide +kernel
theorem dX9_applicable_12 : decode cX9_applicable 12 = .ok (.invokevirtual 202, 3) := by decide +kernel
theorem dX9_applicable_15 : decode cX9_applicable 15 = .ok (.ifCond .ne 5, 3) := by decide +kernel
theorem dX9_applicable_18 : decode cX9_applicable 18 = .ok (.iconst (-1), 1) := by decide +kernel
theorem dX9_applicable_19 : decode cX9_applicable 19 = .ok (.ireturn, 1) := by decide +kernel
theorem dX9_applicable_20 : decode cX9_applicable 20 = .ok (.aload_n 3, 1) := by decide +kernel
theorem dX9_applicable_21 : decode cX9_applicable 21 = .ok (.aload_n 3, 1) := by decide +kernel
theorem dX9_applicable_22 : decode cX9_applicable 22 = .ok (.aload_n 0, 1) := by decide +kernel
theorem dX9_applicable_23 : decode cX9_applicable 23 = .ok (.getfield 45, 3) := by decide +kernel
theorem dX9_applicable_26 : decode cX9_applicable 26 = .ok (.invokevirtual 232, 3) := by decide +kernel
theorem dX9_applicable_29 : decode cX9_applicable 29 = .ok (.iload_n 2, 1) := by decide +kernel
theorem dX9_applicable_30 : decode cX9_applicable 30 = .ok (.invokestatic 236, 3) := by decide +kernel
theorem dX9_applicable_33 : decode cX9_applicable 33 = .ok (.invokevirtual 198, 3) := by decide +kernel
theorem dX9_applicable_36 : decode cX9_applicable 36 = .ok (.ireturn, 1) := by decide +kernel
theorem dX9_most_0 : decode cX9_most 0 = .ok (.aload_n 0, 1) := by decide +kernel
theorem dX9_most_1 : decode cX9_most 1 = .ok (.iload_n 1, 1) := by decide +kernel
theorem dX9_most_2 : decode cX9_most 2 = .ok (.invokevirtual 129, 3) := by decide +kernel
theorem dX9_most_5 : decode cX9_most 5 = .ok (.astore_n 2, 1) := by decide +kernel
theorem dX9_most_6 : decode cX9_most 6 = .ok (.aload_n 2, 1) := by decide +kernel
theorem dX9_most_7 : decode cX9_most 7 = .ok (.ifnull 11, 3) := by decide +kernel
theorem dX9_most_10 : decode cX9_most 10 = .ok (.aload_n 0, 1) := by decide +kernel
theorem dX9_most_11 : decode cX9_most 11 = .ok (.aload_n 2, 1) := by decide +kernel
theorem dX9_most_12 : decode cX9_most 12 = .ok (.invokevirtual 202, 3) := by decide +kernel
theorem dX9_most_15 : decode cX9_most 15 = .ok (.ifCond .ne 5, 3) := by decide +kernel
theorem dX9_most_18 : decode cX9_most 18 = .ok (.iconst (-1), 1) := by decide +kernel
theorem dX9_most_19 : decode cX9_most 19 = .ok (.ireturn, 1) := by decide +kernel
theorem dX9_most_20 : decode cX9_most 20 = .ok (.aload_n 2, 1) := by decide +kernel
theorem dX9_most_21 : decode cX9_most 21 = .ok (.aload_n 2, 1) := by decide +kernel
theorem dX9_most_22 : decode cX9_most 22 = .ok (.aload_n 2, 1) := by decide +kernel
theorem dX9_most_23 : decode cX9_most 23 = .ok (.aload_n 0, 1) := by decide +kernel
theorem dX9_most_24 : decode cX9_most 24 = .ok (.getfield 45, 3) := by decide +kernel
theorem dX9_most_27 : decode cX9_most 27 = .ok (.invokevirtual 232, 3) := by decide +kernel
theorem dX9_most_30 : decode cX9_most 30 = .ok (.invokevirtual 239, 3) := by decide +kernel
theorem dX9_most_33 : decode cX9_most 33 = .ok (.invokevirtual 198, 3) := by decide +kernel
theorem dX9_most_36 : decode cX9_most 36 = .ok (.ireturn, 1) := by decide +kernel
theorem dX9_explain_0 : decode cX9_explain 0 = .ok (.aload_n 0, 1) := by decide +kernel
theorem dX9_explain_1 : decode cX9_explain 1 = .ok (.iload_n 1, 1) := by decide +kernel
theorem dX9_explain_2 : decode cX9_explain 2 = .ok (.invokevirtual 136, 3) := by decide +kernel
theorem dX9_explain_5 : decode cX9_explain 5 = .ok (.astore_n 2, 1) := by decide +kernel
theorem dX9_explain_6 : decode cX9_explain 6 = .ok (.aload_n 2, 1) := by decide +kernel
theorem dX9_explain_7 : decode cX9_explain 7 = .ok (.ifnonnull 6, 3) := by decide +kernel
theorem dX9_explain_10 : decode cX9_explain 10 = .ok (.bipush (-2), 2) := by decide +kernel
theorem dX9_explain_12 : decode cX9_explain 12 = .ok (.ireturn, 1) := by decide +kernel
theorem dX9_explain_13 : decode cX9_explain 13 = .ok (.aload_n 0, 1) := by decide +kernel
theorem dX9_explain_14 : decode cX9_explain 14 = .ok (.aload_n 2, 1) := by decide +kernel
theorem dX9_explain_15 : decode cX9_explain 15 = .ok (.getfield 140, 3) := by decide +kernel
theorem dX9_explain_18 : decode cX9_explain 18 = .ok (.invokevirtual 202, 3) := by decide +kernel
theorem dX9_explain_21 : decode cX9_explain 21 = .ok (.ifCond .ne 6, 3) := by decide +kernel
theorem dX9_explain_24 : decode cX9_explain 24 = .ok (.bipush (-3), 2) := by decide +kernel
theorem dX9_explain_26 : decode cX9_explain 26 = .ok (.ireturn, 1) := by decide +kernel
theorem dX9_explain_27 : decode cX9_explain 27 = .ok (.aload_n 0, 1) := by decide +kernel
theorem dX9_explain_28 : decode cX9_explain 28 = .ok (.iconst (-1), 1) := by decide +kernel
theorem dX9_explain_29 : decode cX9_explain 29 = .ok (.putfield 70, 3) := by decide +kernel
theorem dX9_explain_32 : decode cX9_explain 32 = .ok (.aload_n 2, 1) := by decide +kernel
theorem dX9_explain_33 : decode cX9_explain 33 = .ok (.getfield 147, 3) := by decide +kernel
theorem dX9_explain_36 : decode cX9_explain 36 = .ok (.iconst 1, 1) := by decide +kernel
theorem dX9_explain_37 : decode cX9_explain 37 = .ok (.if_icmp .eq 5, 3) := by decide +kernel
theorem dX9_explain_40 : decode cX9_explain 40 = .ok (.iconst 1, 1) := by decide +kernel
theorem dX9_explain_41 : decode cX9_explain 41 = .ok (.ireturn, 1) := by decide +kernel
theorem dX9_explain_42 : decode cX9_explain 42 = .ok (.aload_n 2, 1) := by decide +kernel
theorem dX9_explain_43 : decode cX9_explain 43 = .ok (.getfield 182, 3) := by decide +kernel
theorem dX9_explain_46 : decode cX9_explain 46 = .ok (.ifCond .eq 5, 3) := by decide +kernel
theorem dX9_explain_49 : decode cX9_explain 49 = .ok (.iconst 2, 1) := by decide +kernel
theorem dX9_explain_50 : decode cX9_explain 50 = .ok (.ireturn, 1) := by decide +kernel
theorem dX9_explain_51 : decode cX9_explain 51 = .ok (.aload_n 2, 1) := by decide +kernel
theorem dX9_explain_52 : decode cX9_explain 52 = .ok (.aload_n 0, 1) := by decide +kernel
theorem dX9_explain_53 : decode cX9_explain 53 = .ok (.getfield 45, 3) := by decide +kernel
theorem dX9_explain_56 : decode cX9_explain 56 = .ok (.invokevirtual 242, 3) := by decide +kernel
theorem dX9_explain_59 : decode cX9_explain 59 = .ok (.istore_n 3, 1) := by decide +kernel
theorem dX9_explain_60 : decode cX9_explain 60 = .ok (.iload_n 3, 1) := by decide +kernel
theorem dX9_explain_61 : decode cX9_explain 61 = .ok (.iconst (-1), 1) := by decide +kernel
theorem dX9_explain_62 : decode cX9_explain 62 = .ok (.if_icmp .eq 10, 3) := by decide +kernel
theorem dX9_explain_65 : decode cX9_explain 65 = .ok (.aload_n 0, 1) := by decide +kernel
theorem dX9_explain_66 : decode cX9_explain 66 = .ok (.iload_n 3, 1) := by decide +kernel
theorem dX9_explain_67 : decode cX9_explain 67 = .ok (.putfield 70, 3) := by decide +kernel
theorem dX9_explain_70 : decode cX9_explain 70 = .ok (.iconst 3, 1) := by decide +kernel
theorem dX9_explain_71 : decode cX9_explain 71 = .ok (.ireturn, 1) := by decide +kernel
theorem dX9_explain_72 : decode cX9_explain 72 = .ok (.aload_n 0, 1) := by decide +kernel
theorem dX9_explain_73 : decode cX9_explain 73 = .ok (.aload_n 2, 1) := by decide +kernel
theorem dX9_explain_74 : decode cX9_explain 74 = .ok (.invokevirtual 245, 3) := by decide +kernel
theorem dX9_explain_77 : decode cX9_explain 77 = .ok (.ireturn, 1) := by decide +kernel
theorem dX9_where_0 : decode cX9_where 0 = .ok (.aload_n 0, 1) := by decide +kernel
theorem dX9_where_1 : decode cX9_where 1 = .ok (.getfield 70, 3) := by decide +kernel
theorem dX9_where_4 : decode cX9_where 4 = .ok (.ireturn, 1) := by decide +kernel
theorem dX9_count_0 : decode cX9_count 0 = .ok (.iload_n 1, 1) := by decide +kernel
theorem dX9_count_1 : decode cX9_count 1 = .ok (.iconst (-1), 1) := by decide +kernel
theorem dX9_count_2 : decode cX9_count 2 = .ok (.if_icmp .ne 9, 3) := by decide +kernel
theorem dX9_count_5 : decode cX9_count 5 = .ok (.aload_n 0, 1) := by decide +kernel
theorem dX9_count_6 : decode cX9_count 6 = .ok (.iload_n 2, 1) := by decide +kernel
theorem dX9_count_7 : decode cX9_count 7 = .ok (.invokevirtual 249, 3) := by decide +kernel
theorem dX9_count_10 : decode cX9_count 10 = .ok (.ireturn, 1) := by decide +kernel
theorem dX9_count_11 : decode cX9_count 11 = .ok (.aload_n 0, 1) := by decide +kernel
theorem dX9_count_12 : decode cX9_count 12 = .ok (.iload_n 1, 1) := by decide +kernel
theorem dX9_count_13 : decode cX9_count 13 = .ok (.invokevirtual 129, 3) := by decide +kernel
theorem dX9_count_16 : decode cX9_count 16 = .ok (.astore_n 3, 1) := by decide +kernel
theorem dX9_count_17 : decode cX9_count 17 = .ok (.aload_n 3, 1) := by decide +kernel
theorem dX9_count_18 : decode cX9_count 18 = .ok (.ifnonnull 6, 3) := by decide +kernel
theorem dX9_count_21 : decode cX9_count 21 = .ok (.bipush (-2), 2) := by decide +kernel
theorem dX9_count_23 : decode cX9_count 23 = .ok (.ireturn, 1) := by decide +kernel
theorem dX9_count_24 : decode cX9_count 24 = .ok (.iload_n 2, 1) := by decide +kernel
theorem dX9_count_25 : decode cX9_count 25 = .ok (.tableswitch 74 0 4 #[35, 40, 45, 58, 66], 35) := by decide +kernel
theorem dX9_count_60 : decode cX9_count 60 = .ok (.aload_n 3, 1) := by decide +kernel
theorem dX9_count_61 : decode cX9_count 61 = .ok (.getfield 252, 3) := by decide +kernel
theorem dX9_count_64 : decode cX9_count 64 = .ok (.ireturn, 1) := by decide +kernel
theorem dX9_count_65 : decode cX9_count 65 = .ok (.aload_n 3, 1) := by decide +kernel
theorem dX9_count_66 : decode cX9_count 66 = .ok (.getfield 192, 3) := by decide +kernel
theorem dX9_count_69 : decode cX9_count 69 = .ok (.ireturn, 1) := by decide +kernel
theorem dX9_count_70 : decode cX9_count 70 = .ok (.aload_n 3, 1) := by decide +kernel
theorem dX9_count_71 : decode cX9_count 71 = .ok (.getfield 159, 3) := by decide +kernel
theorem dX9_count_74 : decode cX9_count 74 = .ok (.ifCond .eq 7, 3) := by decide +kernel
theorem dX9_count_77 : decode cX9_count 77 = .ok (.iconst 1, 1) := by decide +kernel
theorem dX9_count_78 : decode cX9_count 78 = .ok (.goto 4, 3) := by decide +kernel
theorem dX9_count_81 : decode cX9_count 81 = .ok (.iconst 0, 1) := by decide +kernel
theorem dX9_count_82 : decode cX9_count 82 = .ok (.ireturn, 1) := by decide +kernel
theorem dX9_count_83 : decode cX9_count 83 = .ok (.aload_n 3, 1) := by decide +kernel
theorem dX9_count_84 : decode cX9_count 84 = .ok (.getfield 255, 3) := by decide +kernel
theorem dX9_count_87 : decode cX9_count 87 = .ok (.getfield 259, 3) := by decide +kernel
theorem dX9_count_90 : decode cX9_count 90 = .ok (.ireturn, 1) := by decide +kernel
theorem dX9_count_91 : decode cX9_count 91 = .ok (.aload_n 3, 1) := by decide +kernel
theorem dX9_count_92 : decode cX9_count 92 = .ok (.getfield 255, 3) := by decide +kernel
theorem dX9_count_95 : decode cX9_count 95 = .ok (.getfield 264, 3) := by decide +kernel
theorem dX9_count_98 : decode cX9_count 98 = .ok (.ireturn, 1) := by decide +kernel
theorem dX9_count_99 : decode cX9_count 99 = .ok (.bipush (-2), 2) := by decide +kernel
theorem dX9_count_101 : decode cX9_count 101 = .ok (.ireturn, 1) := by decide +kernel
theorem dX9_covered_0 : decode cX9_covered 0 = .ok (.aload_n 0, 1) := by decide +kernel
theorem dX9_covered_1 : decode cX9_covered 1 = .ok (.iload_n 1, 1) := by decide +kernel
theorem dX9_covered_2 : decode cX9_covered 2 = .ok (.invokevirtual 129, 3) := by decide +kernel
theorem dX9_covered_5 : decode cX9_covered 5 = .ok (.astore_n 2, 1) := by decide +kernel
theorem dX9_covered_6 : decode cX9_covered 6 = .ok (.aload_n 2, 1) := by decide +kernel
theorem dX9_covered_7 : decode cX9_covered 7 = .ok (.ifnonnull 6, 3) := by decide +kernel
theorem dX9_covered_10 : decode cX9_covered 10 = .ok (.bipush (-2), 2) := by decide +kernel
theorem dX9_covered_12 : decode cX9_covered 12 = .ok (.ireturn, 1) := by decide +kernel
theorem dX9_covered_13 : decode cX9_covered 13 = .ok (.aload_n 0, 1) := by decide +kernel
theorem dX9_covered_14 : decode cX9_covered 14 = .ok (.getfield 59, 3) := by decide +kernel
theorem dX9_covered_17 : decode cX9_covered 17 = .ok (.aload_n 2, 1) := by decide +kernel
theorem dX9_covered_18 : decode cX9_covered 18 = .ok (.invokevirtual 265, 3) := by decide +kernel
theorem dX9_covered_21 : decode cX9_covered 21 = .ok (.ifCond .eq 7, 3) := by decide +kernel
theorem dX9_covered_24 : decode cX9_covered 24 = .ok (.iconst 0, 1) := by decide +kernel
theorem dX9_covered_25 : decode cX9_covered 25 = .ok (.goto 4, 3) := by decide +kernel
theorem dX9_covered_28 : decode cX9_covered 28 = .ok (.iconst 1, 1) := by decide +kernel
theorem dX9_covered_29 : decode cX9_covered 29 = .ok (.ireturn, 1) := by decide +kernel
theorem dX9_hole_0 : decode cX9_hole 0 = .ok (.aload_n 0, 1) := by decide +kernel
theorem dX9_hole_1 : decode cX9_hole 1 = .ok (.iload_n 1, 1) := by decide +kernel
theorem dX9_hole_2 : decode cX9_hole 2 = .ok (.invokevirtual 129, 3) := by decide +kernel
theorem dX9_hole_5 : decode cX9_hole 5 = .ok (.astore_n 3, 1) := by decide +kernel
theorem dX9_hole_6 : decode cX9_hole 6 = .ok (.aload_n 3, 1) := by decide +kernel
theorem dX9_hole_7 : decode cX9_hole 7 = .ok (.ifnull 23, 3) := by decide +kernel
theorem dX9_hole_10 : decode cX9_hole 10 = .ok (.iload_n 2, 1) := by decide +kernel
theorem dX9_hole_11 : decode cX9_hole 11 = .ok (.ifCond .lt 19, 3) := by decide +kernel
theorem dX9_hole_14 : decode cX9_hole 14 = .ok (.iload_n 2, 1) := by decide +kernel
theorem dX9_hole_15 : decode cX9_hole 15 = .ok (.iconst 3, 1) := by decide +kernel
theorem dX9_hole_16 : decode cX9_hole 16 = .ok (.if_icmp .gt 14, 3) := by decide +kernel
theorem dX9_hole_19 : decode cX9_hole 19 = .ok (.aload_n 0, 1) := by decide +kernel
theorem dX9_hole_20 : decode cX9_hole 20 = .ok (.getfield 59, 3) := by decide +kernel
theorem dX9_hole_23 : decode cX9_hole 23 = .ok (.aload_n 3, 1) := by decide +kernel
theorem dX9_hole_24 : decode cX9_hole 24 = .ok (.invokevirtual 265, 3) := by decide +kernel
theorem dX9_hole_27 : decode cX9_hole 27 = .ok (.ifCond .ne 7, 3) := by decide +kernel
theorem dX9_hole_30 : decode cX9_hole 30 = .ok (.ldc2_w 268, 3) := by decide +kernel
theorem dX9_hole_33 : decode cX9_hole 33 = .ok (.lreturn, 1) := by decide +kernel
theorem dX9_hole_34 : decode cX9_hole 34 = .ok (.aload_n 0, 1) := by decide +kernel
theorem dX9_hole_35 : decode cX9_hole 35 = .ok (.getfield 59, 3) := by decide +kernel
theorem dX9_hole_38 : decode cX9_hole 38 = .ok (.iload_n 2, 1) := by decide +kernel
theorem dX9_hole_39 : decode cX9_hole 39 = .ok (.invokevirtual 270, 3) := by decide +kernel
theorem dX9_hole_42 : decode cX9_hole 42 = .ok (.i2l, 1) := by decide +kernel
theorem dX9_hole_43 : decode cX9_hole 43 = .ok (.lreturn, 1) := by decide +kernel
theorem dX9_doubt_0 : decode cX9_doubt 0 = .ok (.aload_n 0, 1) := by decide +kernel
theorem dX9_doubt_1 : decode cX9_doubt 1 = .ok (.iload_n 1, 1) := by decide +kernel
theorem dX9_doubt_2 : decode cX9_doubt 2 = .ok (.invokevirtual 129, 3) := by decide +kernel
theorem dX9_doubt_5 : decode cX9_doubt 5 = .ok (.astore 4, 2) := by decide +kernel
theorem dX9_doubt_7 : decode cX9_doubt 7 = .ok (.aload 4, 2) := by decide +kernel
theorem dX9_doubt_9 : decode cX9_doubt 9 = .ok (.ifnull 29, 3) := by decide +kernel
theorem dX9_doubt_12 : decode cX9_doubt 12 = .ok (.iload_n 2, 1) := by decide +kernel
theorem dX9_doubt_13 : decode cX9_doubt 13 = .ok (.ifCond .lt 25, 3) := by decide +kernel
theorem dX9_doubt_16 : decode cX9_doubt 16 = .ok (.iload_n 3, 1) := by decide +kernel
theorem dX9_doubt_17 : decode cX9_doubt 17 = .ok (.ifCond .lt 21, 3) := by decide +kernel
theorem dX9_doubt_20 : decode cX9_doubt 20 = .ok (.iload_n 3, 1) := by decide +kernel
theorem dX9_doubt_21 : decode cX9_doubt 21 = .ok (.iconst 5, 1) := by decide +kernel
theorem dX9_doubt_22 : decode cX9_doubt 22 = .ok (.if_icmp .gt 16, 3) := by decide +kernel
theorem dX9_doubt_25 : decode cX9_doubt 25 = .ok (.aload_n 0, 1) := by decide +kernel
theorem dX9_doubt_26 : decode cX9_doubt 26 = .ok (.getfield 59, 3) := by decide +kernel
theorem dX9_doubt_29 : decode cX9_doubt 29 = .ok (.aload 4, 2) := by decide +kernel
theorem dX9_doubt_31 : decode cX9_doubt 31 = .ok (.iload_n 2, 1) := by decide +kernel
theorem dX9_doubt_32 : decode cX9_doubt 32 = .ok (.invokevirtual 273, 3) := by decide +kernel
theorem dX9_doubt_35 : decode cX9_doubt 35 = .ok (.ifCond .ne 7, 3) := by decide +kernel
theorem dX9_doubt_38 : decode cX9_doubt 38 = .ok (.ldc2_w 268, 3) := by decide +kernel
theorem dX9_doubt_41 : decode cX9_doubt 41 = .ok (.lreturn, 1) := by decide +kernel
theorem dX9_doubt_42 : decode cX9_doubt 42 = .ok (.iload_n 3, 1) := by decide +kernel
theorem dX9_doubt_43 : decode cX9_doubt 43 = .ok (.lookupswitch 53 #[(0, 25), (1, 39)], 25) := by decide +kernel
theorem dX9_doubt_68 : decode cX9_doubt 68 = .ok (.aload 4, 2) := by decide +kernel
theorem dX9_doubt_70 : decode cX9_doubt 70 = .ok (.aload_n 0, 1) := by decide +kernel
theorem dX9_doubt_71 : decode cX9_doubt 71 = .ok (.getfield 59, 3) := by decide +kernel
theorem dX9_doubt_74 : decode cX9_doubt 74 = .ok (.getfield 277, 3) := by decide +kernel
theorem dX9_doubt_77 : decode cX9_doubt 77 = .ok (.invokevirtual 198, 3) := by decide +kernel
theorem dX9_doubt_80 : decode cX9_doubt 80 = .ok (.i2l, 1) := by decide +kernel
theorem dX9_doubt_81 : decode cX9_doubt 81 = .ok (.lreturn, 1) := by decide +kernel
theorem dX9_doubt_82 : decode cX9_doubt 82 = .ok (.aload 4, 2) := by decide +kernel
theorem dX9_doubt_84 : decode cX9_doubt 84 = .ok (.aload_n 0, 1) := by decide +kernel
theorem dX9_doubt_85 : decode cX9_doubt 85 = .ok (.getfield 59, 3) := by decide +kernel
theorem dX9_doubt_88 : decode cX9_doubt 88 = .ok (.getfield 280, 3) := by decide +kernel
theorem dX9_doubt_91 : decode cX9_doubt 91 = .ok (.invokevirtual 198, 3) := by decide +kernel
theorem dX9_doubt_94 : decode cX9_doubt 94 = .ok (.i2l, 1) := by decide +kernel
theorem dX9_doubt_95 : decode cX9_doubt 95 = .ok (.lreturn, 1) := by decide +kernel
theorem dX9_doubt_96 : decode cX9_doubt 96 = .ok (.aload_n 0, 1) := by decide +kernel
theorem dX9_doubt_97 : decode cX9_doubt 97 = .ok (.getfield 59, 3) := by decide +kernel
theorem dX9_doubt_100 : decode cX9_doubt 100 = .ok (.iload_n 3, 1) := by decide +kernel
theorem dX9_doubt_101 : decode cX9_doubt 101 = .ok (.iconst 2, 1) := by decide +kernel
theorem dX9_doubt_102 : decode cX9_doubt 102 = .ok (.isub, 1) := by decide +kernel
theorem dX9_doubt_103 : decode cX9_doubt 103 = .ok (.invokevirtual 270, 3) := by decide +kernel
theorem dX9_doubt_106 : decode cX9_doubt 106 = .ok (.i2l, 1) := by decide +kernel
theorem dX9_doubt_107 : decode cX9_doubt 107 = .ok (.lreturn, 1) := by decide +kernel
theorem dX9_isClass_0 : decode cX9_isClass 0 = .ok (.iload_n 0, 1) := by decide +kernel
theorem dX9_isClass_1 : decode cX9_isClass 1 = .ok (.ifCond .lt 13, 3) := by decide +kernel
theorem dX9_isClass_4 : decode cX9_isClass 4 = .ok (.iload_n 0, 1) := by decide +kernel
theorem dX9_isClass_5 : decode cX9_isClass 5 = .ok (.bipush 12, 2) := by decide +kernel
theorem dX9_isClass_7 : decode cX9_isClass 7 = .ok (.if_icmp .ge 7, 3) := by decide +kernel
theorem dX9_isClass_10 : decode cX9_isClass 10 = .ok (.iconst 1, 1) := by decide +kernel
theorem dX9_isClass_11 : decode cX9_isClass 11 = .ok (.goto 4, 3) := by decide +kernel
theorem dX9_isClass_14 : decode cX9_isClass 14 = .ok (.iconst 0, 1) := by decide +kernel
theorem dX9_isClass_15 : decode cX9_isClass 15 = .ok (.ireturn, 1) := by decide +kernel
theorem dX9_isTrait_0 : decode cX9_isTrait 0 = .ok (.iload_n 0, 1) := by decide +kernel
theorem dX9_isTrait_1 : decode cX9_isTrait 1 = .ok (.bipush 12, 2) := by decide +kernel
theorem dX9_isTrait_3 : decode cX9_isTrait 3 = .ok (.if_icmp .lt 13, 3) := by decide +kernel
theorem dX9_isTrait_6 : decode cX9_isTrait 6 = .ok (.iload_n 0, 1) := by decide +kernel
theorem dX9_isTrait_7 : decode cX9_isTrait 7 = .ok (.bipush 16, 2) := by decide +kernel
theorem dX9_isTrait_9 : decode cX9_isTrait 9 = .ok (.if_icmp .ge 7, 3) := by decide +kernel
theorem dX9_isTrait_12 : decode cX9_isTrait 12 = .ok (.iconst 1, 1) := by decide +kernel
theorem dX9_isTrait_13 : decode cX9_isTrait 13 = .ok (.goto 4, 3) := by decide +kernel
theorem dX9_isTrait_16 : decode cX9_isTrait 16 = .ok (.iconst 0, 1) := by decide +kernel
theorem dX9_isTrait_17 : decode cX9_isTrait 17 = .ok (.ireturn, 1) := by decide +kernel
theorem dX9_isCode_0 : decode cX9_isCode 0 = .ok (.iload_n 0, 1) := by decide +kernel
theorem dX9_isCode_1 : decode cX9_isCode 1 = .ok (.ifCond .lt 13, 3) := by decide +kernel
theorem dX9_isCode_4 : decode cX9_isCode 4 = .ok (.iload_n 0, 1) := by decide +kernel
theorem dX9_isCode_5 : decode cX9_isCode 5 = .ok (.bipush 16, 2) := by decide +kernel
theorem dX9_isCode_7 : decode cX9_isCode 7 = .ok (.if_icmp .ge 7, 3) := by decide +kernel
theorem dX9_isCode_10 : decode cX9_isCode 10 = .ok (.iconst 1, 1) := by decide +kernel
theorem dX9_isCode_11 : decode cX9_isCode 11 = .ok (.goto 4, 3) := by decide +kernel
theorem dX9_isCode_14 : decode cX9_isCode 14 = .ok (.iconst 0, 1) := by decide +kernel
theorem dX9_isCode_15 : decode cX9_isCode 15 = .ok (.ireturn, 1) := by decide +kernel
theorem dX9_elementOrZero_0 : decode cX9_elementOrZero 0 = .ok (.iload_n 1, 1) := by decide +kernel
theorem dX9_elementOrZero_1 : decode cX9_elementOrZero 1 = .ok (.ifCond .lt 15, 3) := by decide +kernel
theorem dX9_elementOrZero_4 : decode cX9_elementOrZero 4 = .ok (.iload_n 1, 1) := by decide +kernel
theorem dX9_elementOrZero_5 : decode cX9_elementOrZero 5 = .ok (.aload_n 0, 1) := by decide +kernel
theorem dX9_elementOrZero_6 : decode cX9_elementOrZero 6 = .ok (.arraylength, 1) := by decide +kernel
theorem dX9_elementOrZero_7 : decode cX9_elementOrZero 7 = .ok (.if_icmp .ge 9, 3) := by decide +kernel
theorem dX9_elementOrZero_10 : decode cX9_elementOrZero 10 = .ok (.aload_n 0, 1) := by decide +kernel
theorem dX9_elementOrZero_11 : decode cX9_elementOrZero 11 = .ok (.iload_n 1, 1) := by decide +kernel
theorem dX9_elementOrZero_12 : decode cX9_elementOrZero 12 = .ok (.iaload, 1) := by decide +kernel
theorem dX9_elementOrZero_13 : decode cX9_elementOrZero 13 = .ok (.goto 4, 3) := by decide +kernel
theorem dX9_elementOrZero_16 : decode cX9_elementOrZero 16 = .ok (.iconst 0, 1) := by decide +kernel
theorem dX9_elementOrZero_17 : decode cX9_elementOrZero 17 = .ok (.ireturn, 1) := by decide +kernel
theorem dX9_memberAt_0 : decode cX9_memberAt 0 = .ok (.iconst 0, 1) := by decide +kernel
theorem dX9_memberAt_1 : decode cX9_memberAt 1 = .ok (.istore_n 2, 1) := by decide +kernel
theorem dX9_memberAt_2 : decode cX9_memberAt 2 = .ok (.iconst 0, 1) := by decide +kernel
theorem dX9_memberAt_3 : decode cX9_memberAt 3 = .ok (.istore_n 3, 1) := by decide +kernel
theorem dX9_memberAt_4 : decode cX9_memberAt 4 = .ok (.iload_n 3, 1) := by decide +kernel
theorem dX9_memberAt_5 : decode cX9_memberAt 5 = .ok (.bipush 8, 2) := by decide +kernel
theorem dX9_memberAt_7 : decode cX9_memberAt 7 = .ok (.if_icmp .ge 27, 3) := by decide +kernel
theorem dX9_memberAt_10 : decode cX9_memberAt 10 = .ok (.iload_n 0, 1) := by decide +kernel
theorem dX9_memberAt_11 : decode cX9_memberAt 11 = .ok (.iconst 1, 1) := by decide +kernel
theorem dX9_memberAt_12 : decode cX9_memberAt 12 = .ok (.iload_n 3, 1) := by decide +kernel
theorem dX9_memberAt_13 : decode cX9_memberAt 13 = .ok (.ishl, 1) := by decide +kernel
theorem dX9_memberAt_14 : decode cX9_memberAt 14 = .ok (.iand, 1) := by decide +kernel
theorem dX9_memberAt_15 : decode cX9_memberAt 15 = .ok (.ifCond .eq 13, 3) := by decide +kernel
theorem dX9_memberAt_18 : decode cX9_memberAt 18 = .ok (.iload_n 2, 1) := by decide +kernel
theorem dX9_memberAt_19 : decode cX9_memberAt 19 = .ok (.iload_n 1, 1) := by decide +kernel
theorem dX9_memberAt_20 : decode cX9_memberAt 20 = .ok (.if_icmp .ne 5, 3) := by decide +kernel
theorem dX9_memberAt_23 : decode cX9_memberAt 23 = .ok (.iload_n 3, 1) := by decide +kernel
theorem dX9_memberAt_24 : decode cX9_memberAt 24 = .ok (.ireturn, 1) := by decide +kernel
theorem dX9_memberAt_25 : decode cX9_memberAt 25 = .ok (.iinc 2 1, 3) := by decide +kernel
theorem dX9_memberAt_28 : decode cX9_memberAt 28 = .ok (.iinc 3 1, 3) := by decide +kernel
theorem dX9_memberAt_31 : decode cX9_memberAt 31 = .ok (.goto (-27), 3) := by decide +kernel
theorem dX9_memberAt_34 : decode cX9_memberAt 34 = .ok (.iconst (-1), 1) := by decide +kernel
theorem dX9_memberAt_35 : decode cX9_memberAt 35 = .ok (.ireturn, 1) := by decide +kernel
theorem dX9_functionAt_0 : decode cX9_functionAt 0 = .ok (.iload_n 1, 1) := by decide +kernel
theorem dX9_functionAt_1 : decode cX9_functionAt 1 = .ok (.ifCond .lt 20, 3) := by decide +kernel
theorem dX9_functionAt_4 : decode cX9_functionAt 4 = .ok (.iload_n 1, 1) := by decide +kernel
theorem dX9_functionAt_5 : decode cX9_functionAt 5 = .ok (.aload_n 0, 1) := by decide +kernel
theorem dX9_functionAt_6 : decode cX9_functionAt 6 = .ok (.getfield 63, 3) := by decide +kernel
theorem dX9_functionAt_9 : decode cX9_functionAt 9 = .ok (.if_icmp .ge 12, 3) := by decide +kernel
theorem dX9_functionAt_12 : decode cX9_functionAt 12 = .ok (.aload_n 0, 1) := by decide +kernel
theorem dX9_functionAt_13 : decode cX9_functionAt 13 = .ok (.getfield 25, 3) := by decide +kernel
theorem dX9_functionAt_16 : decode cX9_functionAt 16 = .ok (.iload_n 1, 1) := by decide +kernel
theorem dX9_functionAt_17 : decode cX9_functionAt 17 = .ok (.aaload, 1) := by decide +kernel
theorem dX9_functionAt_18 : decode cX9_functionAt 18 = .ok (.goto 4, 3) := by decide +kernel
theorem dX9_functionAt_21 : decode cX9_functionAt 21 = .ok (.aconst_null, 1) := by decide +kernel
theorem dX9_functionAt_22 : decode cX9_functionAt 22 = .ok (.areturn, 1) := by decide +kernel
theorem dX9_handlerAt_0 : decode cX9_handlerAt 0 = .ok (.iload_n 1, 1) := by decide +kernel
theorem dX9_handlerAt_1 : decode cX9_handlerAt 1 = .ok (.ifCond .lt 20, 3) := by decide +kernel
theorem dX9_handlerAt_4 : decode cX9_handlerAt 4 = .ok (.iload_n 1, 1) := by decide +kernel
theorem dX9_handlerAt_5 : decode cX9_handlerAt 5 = .ok (.aload_n 0, 1) := by decide +kernel
theorem dX9_handlerAt_6 : decode cX9_handlerAt 6 = .ok (.getfield 67, 3) := by decide +kernel
theorem dX9_handlerAt_9 : decode cX9_handlerAt 9 = .ok (.if_icmp .ge 12, 3) := by decide +kernel
theorem dX9_handlerAt_12 : decode cX9_handlerAt 12 = .ok (.aload_n 0, 1) := by decide +kernel
theorem dX9_handlerAt_13 : decode cX9_handlerAt 13 = .ok (.getfield 31, 3) := by decide +kernel
theorem dX9_handlerAt_16 : decode cX9_handlerAt 16 = .ok (.iload_n 1, 1) := by decide +kernel
theorem dX9_handlerAt_17 : decode cX9_handlerAt 17 = .ok (.aaload, 1) := by decide +kernel
theorem dX9_handlerAt_18 : decode cX9_handlerAt 18 = .ok (.goto 4, 3) := by decide +kernel
theorem dX9_handlerAt_21 : decode cX9_handlerAt 21 = .ok (.aconst_null, 1) := by decide +kernel
theorem dX9_handlerAt_22 : decode cX9_handlerAt 22 = .ok (.areturn, 1) := by decide +kernel
theorem dX9_readToldRow_0 : decode cX9_readToldRow 0 = .ok (.iconst 0, 1) := by decide +kernel
theorem dX9_readToldRow_1 : decode cX9_readToldRow 1 = .ok (.istore_n 2, 1) := by decide +kernel
theorem dX9_readToldRow_2 : decode cX9_readToldRow 2 = .ok (.iload_n 2, 1) := by decide +kernel
theorem dX9_readToldRow_3 : decode cX9_readToldRow 3 = .ok (.aload_n 1, 1) := by decide +kernel
theorem dX9_readToldRow_4 : decode cX9_readToldRow 4 = .ok (.getfield 252, 3) := by decide +kernel
theorem dX9_readToldRow_7 : decode cX9_readToldRow 7 = .ok (.if_icmp .ge 65, 3) := by decide +kernel
theorem dX9_readToldRow_10 : decode cX9_readToldRow 10 = .ok (.aload_n 0, 1) := by decide +kernel
theorem dX9_readToldRow_11 : decode cX9_readToldRow 11 = .ok (.getfield 35, 3) := by decide +kernel
theorem dX9_readToldRow_14 : decode cX9_readToldRow 14 = .ok (.iload_n 2, 1) := by decide +kernel
theorem dX9_readToldRow_15 : decode cX9_readToldRow 15 = .ok (.iaload, 1) := by decide +kernel
theorem dX9_readToldRow_16 : decode cX9_readToldRow 16 = .ok (.istore_n 3, 1) := by decide +kernel
theorem dX9_readToldRow_17 : decode cX9_readToldRow 17 = .ok (.aload_n 0, 1) := by decide +kernel
theorem dX9_readToldRow_18 : decode cX9_readToldRow 18 = .ok (.getfield 19, 3) := by decide +kernel
theorem dX9_readToldRow_21 : decode cX9_readToldRow 21 = .ok (.iload_n 3, 1) := by decide +kernel
theorem dX9_readToldRow_22 : decode cX9_readToldRow 22 = .ok (.invokevirtual 114, 3) := by decide +kernel
theorem dX9_readToldRow_25 : decode cX9_readToldRow 25 = .ok (.ifCond .ne 5, 3) := by decide +kernel
theorem dX9_readToldRow_28 : decode cX9_readToldRow 28 = .ok (.iconst 0, 1) := by decide +kernel
theorem dX9_readToldRow_29 : decode cX9_readToldRow 29 = .ok (.ireturn, 1) := by decide +kernel
theorem dX9_readToldRow_30 : decode cX9_readToldRow 30 = .ok (.aload_n 0, 1) := by decide +kernel
theorem dX9_readToldRow_31 : decode cX9_readToldRow 31 = .ok (.getfield 45, 3) := by decide +kernel
theorem dX9_readToldRow_34 : decode cX9_readToldRow 34 = .ok (.getfield 283, 3) := by decide +kernel
theorem dX9_readToldRow_37 : decode cX9_readToldRow 37 = .ok (.iload_n 2, 1) := by decide +kernel
theorem dX9_readToldRow_38 : decode cX9_readToldRow 38 = .ok (.aload_n 0, 1) := by decide +kernel
theorem dX9_readToldRow_39 : decode cX9_readToldRow 39 = .ok (.getfield 19, 3) := by decide +kernel
theorem dX9_readToldRow_42 : decode cX9_readToldRow 42 = .ok (.getfield 117, 3) := by decide +kernel
theorem dX9_readToldRow_45 : decode cX9_readToldRow 45 = .ok (.iload_n 3, 1) := by decide +kernel
theorem dX9_readToldRow_46 : decode cX9_readToldRow 46 = .ok (.iaload, 1) := by decide +kernel
theorem dX9_readToldRow_47 : decode cX9_readToldRow 47 = .ok (.iastore, 1) := by decide +kernel
theorem dX9_readToldRow_48 : decode cX9_readToldRow 48 = .ok (.aload_n 0, 1) := by decide +kernel
theorem dX9_readToldRow_49 : decode cX9_readToldRow 49 = .ok (.getfield 45, 3) := by decide +kernel
theorem dX9_readToldRow_52 : decode cX9_readToldRow 52 = .ok (.getfield 284, 3) := by decide +kernel
theorem dX9_readToldRow_55 : decode cX9_readToldRow 55 = .ok (.iload_n 2, 1) := by decide +kernel
theorem dX9_readToldRow_56 : decode cX9_readToldRow 56 = .ok (.aload_n 0, 1) := by decide +kernel
theorem dX9_readToldRow_57 : decode cX9_readToldRow 57 = .ok (.getfield 19, 3) := by decide +kernel
theorem dX9_readToldRow_60 : decode cX9_readToldRow 60 = .ok (.getfield 120, 3) := by decide +kernel
theorem dX9_readToldRow_63 : decode cX9_readToldRow 63 = .ok (.iload_n 3, 1) := by decide +kernel
theorem dX9_readToldRow_64 : decode cX9_readToldRow 64 = .ok (.iaload, 1) := by decide +kernel
theorem dX9_readToldRow_65 : decode cX9_readToldRow 65 = .ok (.iastore, 1) := by decide +kernel
theorem dX9_readToldRow_66 : decode cX9_readToldRow 66 = .ok (.iinc 2 1, 3) := by decide +kernel
theorem dX9_readToldRow_69 : decode cX9_readToldRow 69 = .ok (.goto (-67), 3) := by decide +kernel
theorem dX9_readToldRow_72 : decode cX9_readToldRow 72 = .ok (.aload_n 0, 1) := by decide +kernel
theorem dX9_readToldRow_73 : decode cX9_readToldRow 73 = .ok (.getfield 45, 3) := by decide +kernel
theorem dX9_readToldRow_76 : decode cX9_readToldRow 76 = .ok (.aload_n 1, 1) := by decide +kernel
theorem dX9_readToldRow_77 : decode cX9_readToldRow 77 = .ok (.getfield 252, 3) := by decide +kernel
theorem dX9_readToldRow_80 : decode cX9_readToldRow 80 = .ok (.putfield 285, 3) := by decide +kernel
theorem dX9_readToldRow_83 : decode cX9_readToldRow 83 = .ok (.iconst 1, 1) := by decide +kernel
theorem dX9_readToldRow_84 : decode cX9_readToldRow 84 = .ok (.ireturn, 1) := by decide +kernel
theorem dX9_countOfAll_0 : decode cX9_countOfAll 0 = .ok (.iload_n 1, 1) := by decide +kernel
theorem dX9_countOfAll_1 : decode cX9_countOfAll 1 = .ok (.tableswitch 77 0 4 #[35, 40, 45, 61, 69], 35) := by decide +kernel
theorem dX9_countOfAll_36 : decode cX9_countOfAll 36 = .ok (.aload_n 0, 1) := by decide +kernel
theorem dX9_countOfAll_37 : decode cX9_countOfAll 37 = .ok (.getfield 63, 3) := by decide +kernel
theorem dX9_countOfAll_40 : decode cX9_countOfAll 40 = .ok (.ireturn, 1) := by decide +kernel
theorem dX9_countOfAll_41 : decode cX9_countOfAll 41 = .ok (.aload_n 0, 1) := by decide +kernel
theorem dX9_countOfAll_42 : decode cX9_countOfAll 42 = .ok (.getfield 67, 3) := by decide +kernel
theorem dX9_countOfAll_45 : decode cX9_countOfAll 45 = .ok (.ireturn, 1) := by decide +kernel
theorem dX9_countOfAll_46 : decode cX9_countOfAll 46 = .ok (.aload_n 0, 1) := by decide +kernel
theorem dX9_countOfAll_47 : decode cX9_countOfAll 47 = .ok (.getfield 12, 3) := by decide +kernel
theorem dX9_countOfAll_50 : decode cX9_countOfAll 50 = .ok (.getfield 77, 3) := by decide +kernel
theorem dX9_countOfAll_53 : decode cX9_countOfAll 53 = .ok (.ifCond .eq 7, 3) := by decide +kernel
theorem dX9_countOfAll_56 : decode cX9_countOfAll 56 = .ok (.iconst 1, 1) := by decide +kernel
theorem dX9_countOfAll_57 : decode cX9_countOfAll 57 = .ok (.goto 4, 3) := by decide +kernel
theorem dX9_countOfAll_60 : decode cX9_countOfAll 60 = .ok (.iconst 0, 1) := by decide +kernel
theorem dX9_countOfAll_61 : decode cX9_countOfAll 61 = .ok (.ireturn, 1) := by decide +kernel
theorem dX9_countOfAll_62 : decode cX9_countOfAll 62 = .ok (.aload_n 0, 1) := by decide +kernel
theorem dX9_countOfAll_63 : decode cX9_countOfAll 63 = .ok (.getfield 52, 3) := by decide +kernel
theorem dX9_countOfAll_66 : decode cX9_countOfAll 66 = .ok (.getfield 226, 3) := by decide +kernel
theorem dX9_countOfAll_69 : decode cX9_countOfAll 69 = .ok (.ireturn, 1) := by decide +kernel
theorem dX9_countOfAll_70 : decode cX9_countOfAll 70 = .ok (.aload_n 0, 1) := by decide +kernel
theorem dX9_countOfAll_71 : decode cX9_countOfAll 71 = .ok (.getfield 52, 3) := by decide +kernel
theorem dX9_countOfAll_74 : decode cX9_countOfAll 74 = .ok (.getfield 209, 3) := by decide +kernel
theorem dX9_countOfAll_77 : decode cX9_countOfAll 77 = .ok (.ireturn, 1) := by decide +kernel
theorem dX9_countOfAll_78 : decode cX9_countOfAll 78 = .ok (.bipush (-2), 2) := by decide +kernel
theorem dX9_countOfAll_80 : decode cX9_countOfAll 80 = .ok (.ireturn, 1) := by decide +kernel
theorem dX9_explainAmongTakers_0 : decode cX9_explainAmongTakers 0 = .ok (.aload_n 1, 1) := by decide +kernel
theorem dX9_explainAmongTakers_1 : decode cX9_explainAmongTakers 1 = .ok (.getfield 140, 3) := by decide +kernel
theorem dX9_explainAmongTakers_4 : decode cX9_explainAmongTakers 4 = .ok (.astore_n 2, 1) := by decide +kernel
theorem dX9_explainAmongTakers_5 : decode cX9_explainAmongTakers 5 = .ok (.aload_n 2, 1) := by decide +kernel
theorem dX9_explainAmongTakers_6 : decode cX9_explainAmongTakers 6 = .ok (.aload_n 1, 1) := by decide +kernel
theorem dX9_explainAmongTakers_7 : decode cX9_explainAmongTakers 7 = .ok (.invokevirtual 286, 3) := by decide +kernel
theorem dX9_explainAmongTakers_10 : decode cX9_explainAmongTakers 10 = .ok (.istore_n 3, 1) := by decide +kernel
theorem dX9_explainAmongTakers_11 : decode cX9_explainAmongTakers 11 = .ok (.aload_n 2, 1) := by decide +kernel
theorem dX9_explainAmongTakers_12 : decode cX9_explainAmongTakers 12 = .ok (.aload_n 0, 1) := by decide +kernel
theorem dX9_explainAmongTakers_13 : decode cX9_explainAmongTakers 13 = .ok (.getfield 45, 3) := by decide +kernel
theorem dX9_explainAmongTakers_16 : decode cX9_explainAmongTakers 16 = .ok (.invokevirtual 232, 3) := by decide +kernel
theorem dX9_explainAmongTakers_19 : decode cX9_explainAmongTakers 19 = .ok (.istore 4, 2) := by decide +kernel
theorem dX9_explainAmongTakers_21 : decode cX9_explainAmongTakers 21 = .ok (.iload 4, 2) := by decide +kernel
theorem dX9_explainAmongTakers_23 : decode cX9_explainAmongTakers 23 = .ok (.aload_n 2, 1) := by decide +kernel
theorem dX9_explainAmongTakers_24 : decode cX9_explainAmongTakers 24 = .ok (.iload_n 3, 1) := by decide +kernel
theorem dX9_explainAmongTakers_25 : decode cX9_explainAmongTakers 25 = .ok (.invokevirtual 289, 3) := by decide +kernel
theorem dX9_explainAmongTakers_28 : decode cX9_explainAmongTakers 28 = .ok (.iand, 1) := by decide +kernel
theorem dX9_explainAmongTakers_29 : decode cX9_explainAmongTakers 29 = .ok (.istore 5, 2) := by decide +kernel
theorem dX9_explainAmongTakers_31 : decode cX9_explainAmongTakers 31 = .ok (.iload 5, 2) := by decide +kernel
theorem dX9_explainAmongTakers_33 : decode cX9_explainAmongTakers 33 = .ok (.ifCond .eq 19, 3) := by decide +kernel
theorem dX9_explainAmongTakers_36 : decode cX9_explainAmongTakers 36 = .ok (.aload_n 0, 1) := by decide +kernel
theorem dX9_explainAmongTakers_37 : decode cX9_explainAmongTakers 37 = .ok (.aload_n 2, 1) := by decide +kernel
theorem dX9_explainAmongTakers_38 : decode cX9_explainAmongTakers 38 = .ok (.iload 5, 2) := by decide +kernel
theorem dX9_explainAmongTakers_40 : decode cX9_explainAmongTakers 40 = .ok (.iconst 0, 1) := by decide +kernel
theorem dX9_explainAmongTakers_41 : decode cX9_explainAmongTakers 41 = .ok (.invokestatic 236, 3) := by decide +kernel
theorem dX9_explainAmongTakers_44 : decode cX9_explainAmongTakers 44 = .ok (.invokevirtual 198, 3) := by decide +kernel
theorem dX9_explainAmongTakers_47 : decode cX9_explainAmongTakers 47 = .ok (.putfield 70, 3) := by decide +kernel
theorem dX9_explainAmongTakers_50 : decode cX9_explainAmongTakers 50 = .ok (.iconst 4, 1) := by decide +kernel
theorem dX9_explainAmongTakers_51 : decode cX9_explainAmongTakers 51 = .ok (.ireturn, 1) := by decide +kernel
theorem dX9_explainAmongTakers_52 : decode cX9_explainAmongTakers 52 = .ok (.iload 4, 2) := by decide +kernel
theorem dX9_explainAmongTakers_54 : decode cX9_explainAmongTakers 54 = .ok (.iconst 1, 1) := by decide +kernel
theorem dX9_explainAmongTakers_55 : decode cX9_explainAmongTakers 55 = .ok (.iload_n 3, 1) := by decide +kernel
theorem dX9_explainAmongTakers_56 : decode cX9_explainAmongTakers 56 = .ok (.ishl, 1) := by decide +kernel
theorem dX9_explainAmongTakers_57 : decode cX9_explainAmongTakers 57 = .ok (.iconst (-1), 1) := by decide +kernel
theorem dX9_explainAmongTakers_58 : decode cX9_explainAmongTakers 58 = .ok (.ixor, 1) := by decide +kernel
theorem dX9_explainAmongTakers_59 : decode cX9_explainAmongTakers 59 = .ok (.iand, 1) := by decide +kernel
theorem dX9_explainAmongTakers_60 : decode cX9_explainAmongTakers 60 = .ok (.aload_n 2, 1) := by decide +kernel
theorem dX9_explainAmongTakers_61 : decode cX9_explainAmongTakers 61 = .ok (.iload_n 3, 1) := by decide +kernel
theorem dX9_explainAmongTakers_62 : decode cX9_explainAmongTakers 62 = .ok (.invokevirtual 292, 3) := by decide +kernel
theorem dX9_explainAmongTakers_65 : decode cX9_explainAmongTakers 65 = .ok (.iconst (-1), 1) := by decide +kernel
theorem dX9_explainAmongTakers_66 : decode cX9_explainAmongTakers 66 = .ok (.ixor, 1) := by decide +kernel
theorem dX9_explainAmongTakers_67 : decode cX9_explainAmongTakers 67 = .ok (.iand, 1) := by decide +kernel
theorem dX9_explainAmongTakers_68 : decode cX9_explainAmongTakers 68 = .ok (.istore 6, 2) := by decide +kernel
theorem dX9_explainAmongTakers_70 : decode cX9_explainAmongTakers 70 = .ok (.iload 6, 2) := by decide +kernel
theorem dX9_explainAmongTakers_72 : decode cX9_explainAmongTakers 72 = .ok (.ifCond .eq 19, 3) := by decide +kernel
theorem dX9_explainAmongTakers_75 : decode cX9_explainAmongTakers 75 = .ok (.aload_n 0, 1) := by decide +kernel
theorem dX9_explainAmongTakers_76 : decode cX9_explainAmongTakers 76 = .ok (.aload_n 2, 1) := by decide +kernel
theorem dX9_explainAmongTakers_77 : decode cX9_explainAmongTakers 77 = .ok (.iload 6, 2) := by decide +kernel
theorem dX9_explainAmongTakers_79 : decode cX9_explainAmongTakers 79 = .ok (.iconst 0, 1) := by decide +kernel
theorem dX9_explainAmongTakers_80 : decode cX9_explainAmongTakers 80 = .ok (.invokestatic 236, 3) := by decide +kernel
theorem dX9_explainAmongTakers_83 : decode cX9_explainAmongTakers 83 = .ok (.invokevirtual 198, 3) := by decide +kernel
theorem dX9_explainAmongTakers_86 : decode cX9_explainAmongTakers 86 = .ok (.putfield 70, 3) := by decide +kernel
theorem dX9_explainAmongTakers_89 : decode cX9_explainAmongTakers 89 = .ok (.iconst 5, 1) := by decide +kernel
theorem dX9_explainAmongTakers_90 : decode cX9_explainAmongTakers 90 = .ok (.ireturn, 1) := by decide +kernel
theorem dX9_explainAmongTakers_91 : decode cX9_explainAmongTakers 91 = .ok (.iconst 0, 1) := by decide +kernel
theorem dX9_explainAmongTakers_92 : decode cX9_explainAmongTakers 92 = .ok (.ireturn, 1) := by decide +kernel
theorem dX9_carryOut_0 : decode cX9_carryOut 0 = .ok (.aload_n 0, 1) := by decide +kernel
theorem dX9_carryOut_1 : decode cX9_carryOut 1 = .ok (.aload_n 1, 1) := by decide +kernel
theorem dX9_carryOut_2 : decode cX9_carryOut 2 = .ok (.invokevirtual 295, 3) := by decide +kernel
theorem dX9_carryOut_5 : decode cX9_carryOut 5 = .ok (.ifCond .eq 13, 3) := by decide +kernel
theorem dX9_carryOut_8 : decode cX9_carryOut 8 = .ok (.aload_n 0, 1) := by decide +kernel
theorem dX9_carryOut_9 : decode cX9_carryOut 9 = .ok (.getfield 52, 3) := by decide +kernel
theorem dX9_carryOut_12 : decode cX9_carryOut 12 = .ok (.iconst 5, 1) := by decide +kernel
theorem dX9_carryOut_13 : decode cX9_carryOut 13 = .ok (.putfield 216, 3) := by decide +kernel
theorem dX9_carryOut_16 : decode cX9_carryOut 16 = .ok (.aconst_null, 1) := by decide +kernel
theorem dX9_carryOut_17 : decode cX9_carryOut 17 = .ok (.areturn, 1) := by decide +kernel
theorem dX9_carryOut_18 : decode cX9_carryOut 18 = .ok (.aload_n 1, 1) := by decide +kernel
theorem dX9_carryOut_19 : decode cX9_carryOut 19 = .ok (.aload_n 0, 1) := by decide +kernel
theorem dX9_carryOut_20 : decode cX9_carryOut 20 = .ok (.getfield 45, 3) := by decide +kernel
theorem dX9_carryOut_23 : decode cX9_carryOut 23 = .ok (.invokevirtual 298, 3) := by decide +kernel
theorem dX9_carryOut_26 : decode cX9_carryOut 26 = .ok (.aload_n 1, 1) := by decide +kernel
theorem dX9_carryOut_27 : decode cX9_carryOut 27 = .ok (.aload_n 0, 1) := by decide +kernel
theorem dX9_carryOut_28 : decode cX9_carryOut 28 = .ok (.getfield 45, 3) := by decide +kernel
theorem dX9_carryOut_31 : decode cX9_carryOut 31 = .ok (.invokevirtual 232, 3) := by decide +kernel
theorem dX9_carryOut_34 : decode cX9_carryOut 34 = .ok (.istore_n 2, 1) := by decide +kernel
theorem dX9_carryOut_35 : decode cX9_carryOut 35 = .ok (.iload_n 2, 1) := by decide +kernel
theorem dX9_carryOut_36 : decode cX9_carryOut 36 = .ok (.ifCond .ne 13, 3) := by decide +kernel
theorem dX9_carryOut_39 : decode cX9_carryOut 39 = .ok (.aload_n 0, 1) := by decide +kernel
theorem dX9_carryOut_40 : decode cX9_carryOut 40 = .ok (.getfield 52, 3) := by decide +kernel
theorem dX9_carryOut_43 : decode cX9_carryOut 43 = .ok (.iconst 1, 1) := by decide +kernel
theorem dX9_carryOut_44 : decode cX9_carryOut 44 = .ok (.putfield 216, 3) := by decide +kernel
theorem dX9_carryOut_47 : decode cX9_carryOut 47 = .ok (.aconst_null, 1) := by decide +kernel
theorem dX9_carryOut_48 : decode cX9_carryOut 48 = .ok (.areturn, 1) := by decide +kernel
theorem dX9_carryOut_49 : decode cX9_carryOut 49 = .ok (.aload_n 0, 1) := by decide +kernel
theorem dX9_carryOut_50 : decode cX9_carryOut 50 = .ok (.aload_n 1, 1) := by decide +kernel
theorem dX9_carryOut_51 : decode cX9_carryOut 51 = .ok (.iload_n 2, 1) := by decide +kernel
theorem dX9_carryOut_52 : decode cX9_carryOut 52 = .ok (.invokevirtual 302, 3) := by decide +kernel
theorem dX9_carryOut_55 : decode cX9_carryOut 55 = .ok (.areturn, 1) := by decide +kernel
theorem dX9_isBarred_0 : decode cX9_isBarred 0 = .ok (.aload_n 0, 1) := by decide +kernel
theorem dX9_isBarred_1 : decode cX9_isBarred 1 = .ok (.getfield 45, 3) := by decide +kernel
theorem dX9_isBarred_4 : decode cX9_isBarred 4 = .ok (.invokevirtual 306, 3) := by decide +kernel
theorem dX9_isBarred_7 : decode cX9_isBarred 7 = .ok (.lstore_n 2, 1) := by decide +kernel
theorem dX9_isBarred_8 : decode cX9_isBarred 8 = .ok (.aload_n 1, 1) := by decide +kernel
theorem dX9_isBarred_9 : decode cX9_isBarred 9 = .ok (.aload_n 0, 1) := by decide +kernel
theorem dX9_isBarred_10 : decode cX9_isBarred 10 = .ok (.getfield 45, 3) := by decide +kernel
theorem dX9_isBarred_13 : decode cX9_isBarred 13 = .ok (.invokevirtual 310, 3) := by decide +kernel
theorem dX9_isBarred_16 : decode cX9_isBarred 16 = .ok (.istore 4, 2) := by decide +kernel
theorem dX9_isBarred_18 : decode cX9_isBarred 18 = .ok (.iconst 0, 1) := by decide +kernel
theorem dX9_isBarred_19 : decode cX9_isBarred 19 = .ok (.istore 5, 2) := by decide +kernel
theorem dX9_isBarred_21 : decode cX9_isBarred 21 = .ok (.iload 5, 2) := by decide +kernel
theorem dX9_isBarred_23 : decode cX9_isBarred 23 = .ok (.aload_n 1, 1) := by decide +kernel
theorem dX9_isBarred_24 : decode cX9_isBarred 24 = .ok (.getfield 192, 3) := by decide +kernel
theorem dX9_isBarred_27 : decode cX9_isBarred 27 = .ok (.if_icmp .ge 75, 3) := by decide +kernel
theorem dX9_isBarred_30 : decode cX9_isBarred 30 = .ok (.aload_n 1, 1) := by decide +kernel
theorem dX9_isBarred_31 : decode cX9_isBarred 31 = .ok (.aload_n 1, 1) := by decide +kernel
theorem dX9_isBarred_32 : decode cX9_isBarred 32 = .ok (.getfield 195, 3) := by decide +kernel
theorem dX9_isBarred_35 : decode cX9_isBarred 35 = .ok (.iload 5, 2) := by decide +kernel
theorem dX9_isBarred_37 : decode cX9_isBarred 37 = .ok (.iaload, 1) := by decide +kernel
theorem dX9_isBarred_38 : decode cX9_isBarred 38 = .ok (.invokevirtual 313, 3) := by decide +kernel
theorem dX9_isBarred_41 : decode cX9_isBarred 41 = .ok (.astore 6, 2) := by decide +kernel
theorem dX9_isBarred_43 : decode cX9_isBarred 43 = .ok (.aload 6, 2) := by decide +kernel
theorem dX9_isBarred_45 : decode cX9_isBarred 45 = .ok (.ifnull 51, 3) := by decide +kernel
theorem dX9_isBarred_48 : decode cX9_isBarred 48 = .ok (.aload 6, 2) := by decide +kernel
theorem dX9_isBarred_50 : decode cX9_isBarred 50 = .ok (.getfield 182, 3) := by decide +kernel
theorem dX9_isBarred_53 : decode cX9_isBarred 53 = .ok (.ifCond .eq 43, 3) := by decide +kernel
theorem dX9_isBarred_56 : decode cX9_isBarred 56 = .ok (.iload 4, 2) := by decide +kernel
theorem dX9_isBarred_58 : decode cX9_isBarred 58 = .ok (.iconst 1, 1) := by decide +kernel
theorem dX9_isBarred_59 : decode cX9_isBarred 59 = .ok (.aload_n 1, 1) := by decide +kernel
theorem dX9_isBarred_60 : decode cX9_isBarred 60 = .ok (.getfield 195, 3) := by decide +kernel
theorem dX9_isBarred_63 : decode cX9_isBarred 63 = .ok (.iload 5, 2) := by decide +kernel
theorem dX9_isBarred_65 : decode cX9_isBarred 65 = .ok (.iaload, 1) := by decide +kernel
theorem dX9_isBarred_66 : decode cX9_isBarred 66 = .ok (.ishl, 1) := by decide +kernel
theorem dX9_isBarred_67 : decode cX9_isBarred 67 = .ok (.iand, 1) := by decide +kernel
theorem dX9_isBarred_68 : decode cX9_isBarred 68 = .ok (.ifCond .eq 28, 3) := by decide +kernel
theorem dX9_isBarred_71 : decode cX9_isBarred 71 = .ok (.aload_n 0, 1) := by decide +kernel
theorem dX9_isBarred_72 : decode cX9_isBarred 72 = .ok (.getfield 52, 3) := by decide +kernel
theorem dX9_isBarred_75 : decode cX9_isBarred 75 = .ok (.aload 6, 2) := by decide +kernel
theorem dX9_isBarred_77 : decode cX9_isBarred 77 = .ok (.getfield 316, 3) := by decide +kernel
theorem dX9_isBarred_80 : decode cX9_isBarred 80 = .ok (.invokevirtual 317, 3) := by decide +kernel
theorem dX9_isBarred_83 : decode cX9_isBarred 83 = .ok (.lload_n 2, 1) := by decide +kernel
theorem dX9_isBarred_84 : decode cX9_isBarred 84 = .ok (.aload 6, 2) := by decide +kernel
theorem dX9_isBarred_86 : decode cX9_isBarred 86 = .ok (.getfield 179, 3) := by decide +kernel
theorem dX9_isBarred_89 : decode cX9_isBarred 89 = .ok (.i2l, 1) := by decide +kernel
theorem dX9_isBarred_90 : decode cX9_isBarred 90 = .ok (.lcmp, 1) := by decide +kernel
theorem dX9_isBarred_91 : decode cX9_isBarred 91 = .ok (.ifCond .ge 5, 3) := by decide +kernel
theorem dX9_isBarred_94 : decode cX9_isBarred 94 = .ok (.iconst 1, 1) := by decide +kernel
theorem dX9_isBarred_95 : decode cX9_isBarred 95 = .ok (.ireturn, 1) := by decide +kernel
theorem dX9_isBarred_96 : decode cX9_isBarred 96 = .ok (.iinc 5 1, 3) := by decide +kernel
theorem dX9_isBarred_99 : decode cX9_isBarred 99 = .ok (.goto (-78), 3) := by decide +kernel
theorem dX9_isBarred_102 : decode cX9_isBarred 102 = .ok (.iconst 0, 1) := by decide +kernel
theorem dX9_isBarred_103 : decode cX9_isBarred 103 = .ok (.ireturn, 1) := by decide +kernel
theorem dX9_runChosen_0 : decode cX9_runChosen 0 = .ok (.iload_n 2, 1) := by decide +kernel
theorem dX9_runChosen_1 : decode cX9_runChosen 1 = .ok (.istore_n 3, 1) := by decide +kernel
theorem dX9_runChosen_2 : decode cX9_runChosen 2 = .ok (.iconst 0, 1) := by decide +kernel
theorem dX9_runChosen_3 : decode cX9_runChosen 3 = .ok (.istore 4, 2) := by decide +kernel
theorem dX9_runChosen_5 : decode cX9_runChosen 5 = .ok (.iload 4, 2) := by decide +kernel
theorem dX9_runChosen_7 : decode cX9_runChosen 7 = .ok (.bipush 8, 2) := by decide +kernel
theorem dX9_runChosen_9 : decode cX9_runChosen 9 = .ok (.if_icmp .ge 101, 3) := by decide +kernel
theorem dX9_runChosen_12 : decode cX9_runChosen 12 = .ok (.aload_n 1, 1) := by decide +kernel
theorem dX9_runChosen_13 : decode cX9_runChosen 13 = .ok (.iload_n 3, 1) := by decide +kernel
theorem dX9_runChosen_14 : decode cX9_runChosen 14 = .ok (.invokevirtual 239, 3) := by decide +kernel
theorem dX9_runChosen_17 : decode cX9_runChosen 17 = .ok (.istore 5, 2) := by decide +kernel
theorem dX9_runChosen_19 : decode cX9_runChosen 19 = .ok (.aload_n 1, 1) := by decide +kernel
theorem dX9_runChosen_20 : decode cX9_runChosen 20 = .ok (.iload 5, 2) := by decide +kernel
theorem dX9_runChosen_22 : decode cX9_runChosen 22 = .ok (.invokevirtual 313, 3) := by decide +kernel
theorem dX9_runChosen_25 : decode cX9_runChosen 25 = .ok (.astore 6, 2) := by decide +kernel
theorem dX9_runChosen_27 : decode cX9_runChosen 27 = .ok (.aload 6, 2) := by decide +kernel
theorem dX9_runChosen_29 : decode cX9_runChosen 29 = .ok (.ifnonnull 13, 3) := by decide +kernel
theorem dX9_runChosen_32 : decode cX9_runChosen 32 = .ok (.aload_n 0, 1) := by decide +kernel
theorem dX9_runChosen_33 : decode cX9_runChosen 33 = .ok (.getfield 52, 3) := by decide +kernel
theorem dX9_runChosen_36 : decode cX9_runChosen 36 = .ok (.iconst 2, 1) := by decide +kernel
theorem dX9_runChosen_37 : decode cX9_runChosen 37 = .ok (.putfield 216, 3) := by decide +kernel
theorem dX9_runChosen_40 : decode cX9_runChosen 40 = .ok (.aconst_null, 1) := by decide +kernel
theorem dX9_runChosen_41 : decode cX9_runChosen 41 = .ok (.areturn, 1) := by decide +kernel
theorem dX9_runChosen_42 : decode cX9_runChosen 42 = .ok (.aload_n 0, 1) := by decide +kernel
theorem dX9_runChosen_43 : decode cX9_runChosen 43 = .ok (.getfield 52, 3) := by decide +kernel
theorem dX9_runChosen_46 : decode cX9_runChosen 46 = .ok (.aload 6, 2) := by decide +kernel
theorem dX9_runChosen_48 : decode cX9_runChosen 48 = .ok (.getfield 316, 3) := by decide +kernel
theorem dX9_runChosen_51 : decode cX9_runChosen 51 = .ok (.invokevirtual 317, 3) := by decide +kernel
theorem dX9_runChosen_54 : decode cX9_runChosen 54 = .ok (.aload 6, 2) := by decide +kernel
theorem dX9_runChosen_56 : decode cX9_runChosen 56 = .ok (.getfield 176, 3) := by decide +kernel
theorem dX9_runChosen_59 : decode cX9_runChosen 59 = .ok (.iconst 2, 1) := by decide +kernel
theorem dX9_runChosen_60 : decode cX9_runChosen 60 = .ok (.if_icmp .eq 10, 3) := by decide +kernel
theorem dX9_runChosen_63 : decode cX9_runChosen 63 = .ok (.aload_n 0, 1) := by decide +kernel
theorem dX9_runChosen_64 : decode cX9_runChosen 64 = .ok (.aload 6, 2) := by decide +kernel
theorem dX9_runChosen_66 : decode cX9_runChosen 66 = .ok (.invokevirtual 321, 3) := by decide +kernel
theorem dX9_runChosen_69 : decode cX9_runChosen 69 = .ok (.areturn, 1) := by decide +kernel
theorem dX9_runChosen_70 : decode cX9_runChosen 70 = .ok (.aload_n 0, 1) := by decide +kernel
theorem dX9_runChosen_71 : decode cX9_runChosen 71 = .ok (.getfield 52, 3) := by decide +kernel
theorem dX9_runChosen_74 : decode cX9_runChosen 74 = .ok (.dup, 1) := by decide +kernel
theorem dX9_runChosen_75 : decode cX9_runChosen 75 = .ok (.getfield 219, 3) := by decide +kernel
theorem dX9_runChosen_78 : decode cX9_runChosen 78 = .ok (.aload 6, 2) := by decide +kernel
theorem dX9_runChosen_80 : decode cX9_runChosen 80 = .ok (.getfield 179, 3) := by decide +kernel
theorem dX9_runChosen_83 : decode cX9_runChosen 83 = .ok (.i2l, 1) := by decide +kernel
theorem dX9_runChosen_84 : decode cX9_runChosen 84 = .ok (.ladd, 1) := by decide +kernel
theorem dX9_runChosen_85 : decode cX9_runChosen 85 = .ok (.putfield 219, 3) := by decide +kernel
theorem dX9_runChosen_88 : decode cX9_runChosen 88 = .ok (.iload_n 2, 1) := by decide +kernel
theorem dX9_runChosen_89 : decode cX9_runChosen 89 = .ok (.aload_n 1, 1) := by decide +kernel
theorem dX9_runChosen_90 : decode cX9_runChosen 90 = .ok (.iload 5, 2) := by decide +kernel
theorem dX9_runChosen_92 : decode cX9_runChosen 92 = .ok (.invokevirtual 292, 3) := by decide +kernel
theorem dX9_runChosen_95 : decode cX9_runChosen 95 = .ok (.iand, 1) := by decide +kernel
theorem dX9_runChosen_96 : decode cX9_runChosen 96 = .ok (.istore_n 3, 1) := by decide +kernel
theorem dX9_runChosen_97 : decode cX9_runChosen 97 = .ok (.iload_n 3, 1) := by decide +kernel
theorem dX9_runChosen_98 : decode cX9_runChosen 98 = .ok (.ifCond .ne 6, 3) := by decide +kernel
theorem dX9_runChosen_101 : decode cX9_runChosen 101 = .ok (.goto 9, 3) := by decide +kernel
theorem dX9_runChosen_104 : decode cX9_runChosen 104 = .ok (.iinc 4 1, 3) := by decide +kernel
theorem dX9_runChosen_107 : decode cX9_runChosen 107 = .ok (.goto (-102), 3) := by decide +kernel
theorem dX9_runChosen_110 : decode cX9_runChosen 110 = .ok (.aload_n 0, 1) := by decide +kernel
theorem dX9_runChosen_111 : decode cX9_runChosen 111 = .ok (.getfield 52, 3) := by decide +kernel
theorem dX9_runChosen_114 : decode cX9_runChosen 114 = .ok (.iconst 0, 1) := by decide +kernel
theorem dX9_runChosen_115 : decode cX9_runChosen 115 = .ok (.putfield 216, 3) := by decide +kernel
theorem dX9_runChosen_118 : decode cX9_runChosen 118 = .ok (.aconst_null, 1) := by decide +kernel
theorem dX9_runChosen_119 : decode cX9_runChosen 119 = .ok (.areturn, 1) := by decide +kernel
theorem dX9_act_0 : decode cX9_act 0 = .ok (.aload_n 1, 1) := by decide +kernel
theorem dX9_act_1 : decode cX9_act 1 = .ok (.getfield 176, 3) := by decide +kernel
theorem dX9_act_4 : decode cX9_act 4 = .ok (.tableswitch 132 0 6 #[44, 58, 132, 80, 93, 116, 126], 44) := by decide +kernel
theorem dX9_act_48 : decode cX9_act 48 = .ok (.aload_n 0, 1) := by decide +kernel
theorem dX9_act_49 : decode cX9_act 49 = .ok (.getfield 52, 3) := by decide +kernel
theorem dX9_act_52 : decode cX9_act 52 = .ok (.aload_n 1, 1) := by decide +kernel
theorem dX9_act_53 : decode cX9_act 53 = .ok (.getfield 179, 3) := by decide +kernel
theorem dX9_act_56 : decode cX9_act 56 = .ok (.i2l, 1) := by decide +kernel
theorem dX9_act_57 : decode cX9_act 57 = .ok (.invokevirtual 325, 3) := by decide +kernel
theorem dX9_act_60 : decode cX9_act 60 = .ok (.aconst_null, 1) := by decide +kernel
theorem dX9_act_61 : decode cX9_act 61 = .ok (.areturn, 1) := by decide +kernel
theorem dX9_act_62 : decode cX9_act 62 = .ok (.aload_n 0, 1) := by decide +kernel
theorem dX9_act_63 : decode cX9_act 63 = .ok (.getfield 52, 3) := by decide +kernel
theorem dX9_act_66 : decode cX9_act 66 = .ok (.aload_n 0, 1) := by decide +kernel
theorem dX9_act_67 : decode cX9_act 67 = .ok (.getfield 45, 3) := by decide +kernel
theorem dX9_act_70 : decode cX9_act 70 = .ok (.invokevirtual 306, 3) := by decide +kernel
theorem dX9_act_73 : decode cX9_act 73 = .ok (.aload_n 1, 1) := by decide +kernel
theorem dX9_act_74 : decode cX9_act 74 = .ok (.getfield 179, 3) := by decide +kernel
theorem dX9_act_77 : decode cX9_act 77 = .ok (.i2l, 1) := by decide +kernel
theorem dX9_act_78 : decode cX9_act 78 = .ok (.ladd, 1) := by decide +kernel
theorem dX9_act_79 : decode cX9_act 79 = .ok (.invokevirtual 325, 3) := by decide +kernel
theorem dX9_act_82 : decode cX9_act 82 = .ok (.aconst_null, 1) := by decide +kernel
theorem dX9_act_83 : decode cX9_act 83 = .ok (.areturn, 1) := by decide +kernel
theorem dX9_act_84 : decode cX9_act 84 = .ok (.aload_n 0, 1) := by decide +kernel
theorem dX9_act_85 : decode cX9_act 85 = .ok (.getfield 52, 3) := by decide +kernel
theorem dX9_act_88 : decode cX9_act 88 = .ok (.aload_n 1, 1) := by decide +kernel
theorem dX9_act_89 : decode cX9_act 89 = .ok (.getfield 179, 3) := by decide +kernel
theorem dX9_act_92 : decode cX9_act 92 = .ok (.invokevirtual 329, 3) := by decide +kernel
theorem dX9_act_95 : decode cX9_act 95 = .ok (.aconst_null, 1) := by decide +kernel
theorem dX9_act_96 : decode cX9_act 96 = .ok (.areturn, 1) := by decide +kernel
theorem dX9_act_97 : decode cX9_act 97 = .ok (.aload_n 0, 1) := by decide +kernel
theorem dX9_act_98 : decode cX9_act 98 = .ok (.getfield 52, 3) := by decide +kernel
theorem dX9_act_101 : decode cX9_act 101 = .ok (.aload_n 0, 1) := by decide +kernel
theorem dX9_act_102 : decode cX9_act 102 = .ok (.aload_n 1, 1) := by decide +kernel
theorem dX9_act_103 : decode cX9_act 103 = .ok (.getfield 179, 3) := by decide +kernel
theorem dX9_act_106 : decode cX9_act 106 = .ok (.bipush 8, 2) := by decide +kernel
theorem dX9_act_108 : decode cX9_act 108 = .ok (.invokestatic 332, 3) := by decide +kernel
theorem dX9_act_111 : decode cX9_act 111 = .ok (.invokevirtual 337, 3) := by decide +kernel
theorem dX9_act_114 : decode cX9_act 114 = .ok (.i2l, 1) := by decide +kernel
theorem dX9_act_115 : decode cX9_act 115 = .ok (.invokevirtual 325, 3) := by decide +kernel
theorem dX9_act_118 : decode cX9_act 118 = .ok (.aconst_null, 1) := by decide +kernel
theorem dX9_act_119 : decode cX9_act 119 = .ok (.areturn, 1) := by decide +kernel
theorem dX9_act_120 : decode cX9_act 120 = .ok (.aload_n 0, 1) := by decide +kernel
theorem dX9_act_121 : decode cX9_act 121 = .ok (.aload_n 1, 1) := by decide +kernel
theorem dX9_act_122 : decode cX9_act 122 = .ok (.getfield 179, 3) := by decide +kernel
theorem dX9_act_125 : decode cX9_act 125 = .ok (.invokevirtual 340, 3) := by decide +kernel
theorem dX9_act_128 : decode cX9_act 128 = .ok (.aconst_null, 1) := by decide +kernel
theorem dX9_act_129 : decode cX9_act 129 = .ok (.areturn, 1) := by decide +kernel
theorem dX9_act_130 : decode cX9_act 130 = .ok (.aload_n 0, 1) := by decide +kernel
theorem dX9_act_131 : decode cX9_act 131 = .ok (.aload_n 1, 1) := by decide +kernel
theorem dX9_act_132 : decode cX9_act 132 = .ok (.invokevirtual 343, 3) := by decide +kernel
theorem dX9_act_135 : decode cX9_act 135 = .ok (.areturn, 1) := by decide +kernel
theorem dX9_act_136 : decode cX9_act 136 = .ok (.aload_n 0, 1) := by decide +kernel
theorem dX9_act_137 : decode cX9_act 137 = .ok (.getfield 45, 3) := by decide +kernel
theorem dX9_act_140 : decode cX9_act 140 = .ok (.invokevirtual 346, 3) := by decide +kernel
theorem dX9_act_143 : decode cX9_act 143 = .ok (.aload_n 0, 1) := by decide +kernel
theorem dX9_act_144 : decode cX9_act 144 = .ok (.aload_n 1, 1) := by decide +kernel
theorem dX9_act_145 : decode cX9_act 145 = .ok (.invokevirtual 343, 3) := by decide +kernel
theorem dX9_act_148 : decode cX9_act 148 = .ok (.areturn, 1) := by decide +kernel
theorem dX9_countUp_0 : decode cX9_countUp 0 = .ok (.aload_n 0, 1) := by decide +kernel
theorem dX9_countUp_1 : decode cX9_countUp 1 = .ok (.getfield 39, 3) := by decide +kernel
theorem dX9_countUp_4 : decode cX9_countUp 4 = .ok (.iload_n 1, 1) := by decide +kernel
theorem dX9_countUp_5 : decode cX9_countUp 5 = .ok (.dup2, 1) := by decide +kernel
theorem dX9_countUp_6 : decode cX9_countUp 6 = .ok (.iaload, 1) := by decide +kernel
theorem dX9_countUp_7 : decode cX9_countUp 7 = .ok (.iconst 1, 1) := by decide +kernel
theorem dX9_countUp_8 : decode cX9_countUp 8 = .ok (.iadd, 1) := by decide +kernel
theorem dX9_countUp_9 : decode cX9_countUp 9 = .ok (.iastore, 1) := by decide +kernel
theorem dX9_countUp_10 : decode cX9_countUp 10 = .ok (.aload_n 0, 1) := by decide +kernel
theorem dX9_countUp_11 : decode cX9_countUp 11 = .ok (.getfield 39, 3) := by decide +kernel
theorem dX9_countUp_14 : decode cX9_countUp 14 = .ok (.iload_n 1, 1) := by decide +kernel
theorem dX9_countUp_15 : decode cX9_countUp 15 = .ok (.iaload, 1) := by decide +kernel
theorem dX9_countUp_16 : decode cX9_countUp 16 = .ok (.ireturn, 1) := by decide +kernel
theorem dX9_bringSample_0 : decode cX9_bringSample 0 = .ok (.aload_n 0, 1) := by decide +kernel
theorem dX9_bringSample_1 : decode cX9_bringSample 1 = .ok (.getfield 19, 3) := by decide +kernel
theorem dX9_bringSample_4 : decode cX9_bringSample 4 = .ok (.aload_n 0, 1) := by decide +kernel
theorem dX9_bringSample_5 : decode cX9_bringSample 5 = .ok (.getfield 45, 3) := by decide +kernel
theorem dX9_bringSample_8 : decode cX9_bringSample 8 = .ok (.getfield 283, 3) := by decide +kernel
theorem dX9_bringSample_11 : decode cX9_bringSample 11 = .ok (.iconst 0, 1) := by decide +kernel
theorem dX9_bringSample_12 : decode cX9_bringSample 12 = .ok (.iaload, 1) := by decide +kernel
theorem dX9_bringSample_13 : decode cX9_bringSample 13 = .ok (.aload_n 0, 1) := by decide +kernel
theorem dX9_bringSample_14 : decode cX9_bringSample 14 = .ok (.getfield 45, 3) := by decide +kernel
theorem dX9_bringSample_17 : decode cX9_bringSample 17 = .ok (.getfield 284, 3) := by decide +kernel
theorem dX9_bringSample_20 : decode cX9_bringSample 20 = .ok (.iconst 0, 1) := by decide +kernel
theorem dX9_bringSample_21 : decode cX9_bringSample 21 = .ok (.iaload, 1) := by decide +kernel
theorem dX9_bringSample_22 : decode cX9_bringSample 22 = .ok (.iload_n 1, 1) := by decide +kernel
theorem dX9_bringSample_23 : decode cX9_bringSample 23 = .ok (.iadd, 1) := by decide +kernel
theorem dX9_bringSample_24 : decode cX9_bringSample 24 = .ok (.invokevirtual 111, 3) := by decide +kernel
theorem dX9_bringSample_27 : decode cX9_bringSample 27 = .ok (.istore_n 2, 1) := by decide +kernel
theorem dX9_bringSample_28 : decode cX9_bringSample 28 = .ok (.iload_n 2, 1) := by decide +kernel
theorem dX9_bringSample_29 : decode cX9_bringSample 29 = .ok (.iconst (-1), 1) := by decide +kernel
theorem dX9_bringSample_30 : decode cX9_bringSample 30 = .ok (.if_icmp .ne 14, 3) := by decide +kernel
theorem dX9_bringSample_33 : decode cX9_bringSample 33 = .ok (.aload_n 0, 1) := by decide +kernel
theorem dX9_bringSample_34 : decode cX9_bringSample 34 = .ok (.getfield 52, 3) := by decide +kernel
theorem dX9_bringSample_37 : decode cX9_bringSample 37 = .ok (.iconst (-1), 1) := by decide +kernel
theorem dX9_bringSample_38 : decode cX9_bringSample 38 = .ok (.invokevirtual 329, 3) := by decide +kernel
theorem dX9_bringSample_41 : decode cX9_bringSample 41 = .ok (.goto 12, 3) := by decide +kernel
theorem dX9_bringSample_44 : decode cX9_bringSample 44 = .ok (.aload_n 0, 1) := by decide +kernel
theorem dX9_bringSample_45 : decode cX9_bringSample 45 = .ok (.getfield 52, 3) := by decide +kernel
theorem dX9_bringSample_48 : decode cX9_bringSample 48 = .ok (.iload_n 2, 1) := by decide +kernel
theorem dX9_bringSample_49 : decode cX9_bringSample 49 = .ok (.i2l, 1) := by decide +kernel
theorem dX9_bringSample_50 : decode cX9_bringSample 50 = .ok (.invokevirtual 325, 3) := by decide +kernel
theorem dX9_bringSample_53 : decode cX9_bringSample 53 = .ok (.return_, 1) := by decide +kernel
theorem dX9_calledWithin_0 : decode cX9_calledWithin 0 = .ok (.aload_n 0, 1) := by decide +kernel
theorem dX9_calledWithin_1 : decode cX9_calledWithin 1 = .ok (.aload_n 1, 1) := by decide +kernel
theorem dX9_calledWithin_2 : decode cX9_calledWithin 2 = .ok (.getfield 179, 3) := by decide +kernel
theorem dX9_calledWithin_5 : decode cX9_calledWithin 5 = .ok (.iconst 4, 1) := by decide +kernel
theorem dX9_calledWithin_6 : decode cX9_calledWithin 6 = .ok (.invokestatic 332, 3) := by decide +kernel
theorem dX9_calledWithin_9 : decode cX9_calledWithin 9 = .ok (.invokevirtual 129, 3) := by decide +kernel
theorem dX9_calledWithin_12 : decode cX9_calledWithin 12 = .ok (.astore_n 2, 1) := by decide +kernel
theorem dX9_calledWithin_13 : decode cX9_calledWithin 13 = .ok (.aload_n 2, 1) := by decide +kernel
theorem dX9_calledWithin_14 : decode cX9_calledWithin 14 = .ok (.ifnull 17, 3) := by decide +kernel
theorem dX9_calledWithin_17 : decode cX9_calledWithin 17 = .ok (.aload_n 2, 1) := by decide +kernel
theorem dX9_calledWithin_18 : decode cX9_calledWithin 18 = .ok (.getfield 252, 3) := by decide +kernel
theorem dX9_calledWithin_21 : decode cX9_calledWithin 21 = .ok (.aload_n 0, 1) := by decide +kernel
theorem dX9_calledWithin_22 : decode cX9_calledWithin 22 = .ok (.getfield 45, 3) := by decide +kernel
theorem dX9_calledWithin_25 : decode cX9_calledWithin 25 = .ok (.getfield 285, 3) := by decide +kernel
theorem dX9_calledWithin_28 : decode cX9_calledWithin 28 = .ok (.if_icmp .eq 14, 3) := by decide +kernel
theorem dX9_calledWithin_31 : decode cX9_calledWithin 31 = .ok (.aload_n 0, 1) := by decide +kernel
theorem dX9_calledWithin_32 : decode cX9_calledWithin 32 = .ok (.getfield 52, 3) := by decide +kernel
theorem dX9_calledWithin_35 : decode cX9_calledWithin 35 = .ok (.bipush (-2), 2) := by decide +kernel
theorem dX9_calledWithin_37 : decode cX9_calledWithin 37 = .ok (.invokevirtual 329, 3) := by decide +kernel
theorem dX9_calledWithin_40 : decode cX9_calledWithin 40 = .ok (.aconst_null, 1) := by decide +kernel
theorem dX9_calledWithin_41 : decode cX9_calledWithin 41 = .ok (.areturn, 1) := by decide +kernel
theorem dX9_calledWithin_42 : decode cX9_calledWithin 42 = .ok (.aload_n 0, 1) := by decide +kernel
theorem dX9_calledWithin_43 : decode cX9_calledWithin 43 = .ok (.getfield 52, 3) := by decide +kernel
theorem dX9_calledWithin_46 : decode cX9_calledWithin 46 = .ok (.dup, 1) := by decide +kernel
theorem dX9_calledWithin_47 : decode cX9_calledWithin 47 = .ok (.getfield 219, 3) := by decide +kernel
theorem dX9_calledWithin_50 : decode cX9_calledWithin 50 = .ok (.lconst 1, 1) := by decide +kernel
theorem dX9_calledWithin_51 : decode cX9_calledWithin 51 = .ok (.ladd, 1) := by decide +kernel
theorem dX9_calledWithin_52 : decode cX9_calledWithin 52 = .ok (.putfield 219, 3) := by decide +kernel
theorem dX9_calledWithin_55 : decode cX9_calledWithin 55 = .ok (.aload_n 2, 1) := by decide +kernel
theorem dX9_calledWithin_56 : decode cX9_calledWithin 56 = .ok (.areturn, 1) := by decide +kernel
theorem dX10_init_0 : decode cX10_init 0 = .ok (.aload_n 0, 1) := by decide +kernel
theorem dX10_init_1 : decode cX10_init 1 = .ok (.invokespecial 1, 3) := by decide +kernel
theorem dX10_init_4 : decode cX10_init 4 = .ok (.aload_n 0, 1) := by decide +kernel
theorem dX10_init_5 : decode cX10_init 5 = .ok (.bipush 12, 2) := by decide +kernel
theorem dX10_init_7 : decode cX10_init 7 = .ok (.newarray .int, 2) := by decide +kernel
theorem dX10_init_9 : decode cX10_init 9 = .ok (.putfield 7, 3) := by decide +kernel
theorem dX10_init_12 : decode cX10_init 12 = .ok (.aload_n 0, 1) := by decide +kernel
theorem dX10_init_13 : decode cX10_init 13 = .ok (.sipush 256, 3) := by decide +kernel
theorem dX10_init_16 : decode cX10_init 16 = .ok (.newarray .boolean, 2) := by decide +kernel
theorem dX10_init_18 : decode cX10_init 18 = .ok (.putfield 13, 3) := by decide +kernel
theorem dX10_init_21 : decode cX10_init 21 = .ok (.aload_n 0, 1) := by decide +kernel
theorem dX10_init_22 : decode cX10_init 22 = .ok (.sipush 256, 3) := by decide +kernel
theorem dX10_init_25 : decode cX10_init 25 = .ok (.newarray .boolean, 2) := by decide +kernel
theorem dX10_init_27 : decode cX10_init 27 = .ok (.putfield 17, 3) := by decide +kernel
theorem dX10_init_30 : decode cX10_init 30 = .ok (.aload_n 0, 1) := by decide +kernel
theorem dX10_init_31 : decode cX10_init 31 = .ok (.bipush 12, 2) := by decide +kernel
theorem dX10_init_33 : decode cX10_init 33 = .ok (.newarray .boolean, 2) := by decide +kernel
theorem dX10_init_35 : decode cX10_init 35 = .ok (.putfield 20, 3) := by decide +kernel
theorem dX10_init_38 : decode cX10_init 38 = .ok (.aload_n 0, 1) := by decide +kernel
theorem dX10_init_39 : decode cX10_init 39 = .ok (.sipush 300, 3) := by decide +kernel
theorem dX10_init_42 : decode cX10_init 42 = .ok (.newarray .int, 2) := by decide +kernel
theorem dX10_init_44 : decode cX10_init 44 = .ok (.putfield 23, 3) := by decide +kernel
theorem dX10_init_47 : decode cX10_init 47 = .ok (.aload_n 0, 1) := by decide +kernel
theorem dX10_init_48 : decode cX10_init 48 = .ok (.sipush 300, 3) := by decide +kernel
theorem dX10_init_51 : decode cX10_init 51 = .ok (.newarray .int, 2) := by decide +kernel
theorem dX10_init_53 : decode cX10_init 53 = .ok (.putfield 26, 3) := by decide +kernel
theorem dX10_init_56 : decode cX10_init 56 = .ok (.aload_n 0, 1) := by decide +kernel
theorem dX10_init_57 : decode cX10_init 57 = .ok (.iconst 4, 1) := by decide +kernel
theorem dX10_init_58 : decode cX10_init 58 = .ok (.newarray .int, 2) := by decide +kernel
theorem dX10_init_60 : decode cX10_init 60 = .ok (.putfield 29, 3) := by decide +kernel
theorem dX10_init_63 : decode cX10_init 63 = .ok (.aload_n 0, 1) := by decide +kernel
theorem dX10_init_64 : decode cX10_init 64 = .ok (.iconst 4, 1) := by decide +kernel
theorem dX10_init_65 : decode cX10_init 65 = .ok (.newarray .boolean, 2) := by decide +kernel
theorem dX10_init_67 : decode cX10_init 67 = .ok (.putfield 32, 3) := by decide +kernel
theorem dX10_init_70 : decode cX10_init 70 = .ok (.aload_n 0, 1) := by decide +kernel
theorem dX10_init_71 : decode cX10_init 71 = .ok (.iconst 4, 1) := by decide +kernel
theorem dX10_init_72 : decode cX10_init 72 = .ok (.newarray .int, 2) := by decide +kernel
theorem dX10_init_74 : decode cX10_init 74 = .ok (.putfield 35, 3) := by decide +kernel
theorem dX10_init_77 : decode cX10_init 77 = .ok (.aload_n 0, 1) := by decide +kernel
theorem dX10_init_78 : decode cX10_init 78 = .ok (.sipush 256, 3) := by decide +kernel
theorem dX10_init_81 : decode cX10_init 81 = .ok (.newarray .long, 2) := by decide +kernel
theorem dX10_init_83 : decode cX10_init 83 = .ok (.putfield 38, 3) := by decide +kernel
theorem dX10_init_86 : decode cX10_init 86 = .ok (.aload_n 0, 1) := by decide +kernel
theorem dX10_init_87 : decode cX10_init 87 = .ok (.iconst 4, 1) := by decide +kernel
theorem dX10_init_88 : decode cX10_init 88 = .ok (.newarray .int, 2) := by decide +kernel
theorem dX10_init_90 : decode cX10_init 90 = .ok (.putfield 42, 3) := by decide +kernel
theorem dX10_init_93 : decode cX10_init 93 = .ok (.aload_n 0, 1) := by decide +kernel
theorem dX10_init_94 : decode cX10_init 94 = .ok (.bipush 40, 2) := by decide +kernel
theorem dX10_init_96 : decode cX10_init 96 = .ok (.newarray .int, 2) := by decide +kernel
theorem dX10_init_98 : decode cX10_init 98 = .ok (.putfield 45, 3) := by decide +kernel
theorem dX10_init_101 : decode cX10_init 101 = .ok (.aload_n 0, 1) := by decide +kernel
theorem dX10_init_102 : decode cX10_init 102 = .ok (.bipush 40, 2) := by decide +kernel
theorem dX10_init_104 : decode cX10_init 104 = .ok (.newarray .int, 2) := by decide +kernel
theorem dX10_init_106 : decode cX10_init 106 = .ok (.putfield 48, 3) := by decide +kernel
theorem dX10_init_109 : decode cX10_init 109 = .ok (.aload_n 0, 1) := by decide +kernel
theorem dX10_init_110 : decode cX10_init 110 = .ok (.bipush 40, 2) := by decide +kernel
theorem dX10_init_112 : decode cX10_init 112 = .ok (.newarray .int, 2) := by decide +kernel
theorem dX10_init_114 : decode cX10_init 114 = .ok (.putfield 51, 3) := by decide +kernel
theorem dX10_init_117 : decode cX10_init 117 = .ok (.aload_n 0, 1) := by decide +kernel
theorem dX10_init_118 : decode cX10_init 118 = .ok (.bipush 40, 2) := by decide +kernel
theorem dX10_init_120 : decode cX10_init 120 = .ok (.newarray .boolean, 2) := by decide +kernel
theorem dX10_init_122 : decode cX10_init 122 = .ok (.putfield 54, 3) := by decide +kernel
theorem dX10_init_125 : decode cX10_init 125 = .ok (.aload_n 0, 1) := by decide +kernel
theorem dX10_init_126 : decode cX10_init 126 = .ok (.bipush 40, 2) := by decide +kernel
theorem dX10_init_128 : decode cX10_init 128 = .ok (.newarray .int, 2) := by decide +kernel
theorem dX10_init_130 : decode cX10_init 130 = .ok (.putfield 57, 3) := by decide +kernel
theorem dX10_init_133 : decode cX10_init 133 = .ok (.aload_n 0, 1) := by decide +kernel
theorem dX10_init_134 : decode cX10_init 134 = .ok (.bipush 80, 2) := by decide +kernel
theorem dX10_init_136 : decode cX10_init 136 = .ok (.newarray .int, 2) := by decide +kernel
theorem dX10_init_138 : decode cX10_init 138 = .ok (.putfield 60, 3) := by decide +kernel
theorem dX10_init_141 : decode cX10_init 141 = .ok (.aload_n 0, 1) := by decide +kernel
theorem dX10_init_142 : decode cX10_init 142 = .ok (.bipush 80, 2) := by decide +kernel
theorem dX10_init_144 : decode cX10_init 144 = .ok (.newarray .int, 2) := by decide +kernel
theorem dX10_init_146 : decode cX10_init 146 = .ok (.putfield 63, 3) := by decide +kernel
theorem dX10_init_149 : decode cX10_init 149 = .ok (.aload_n 0, 1) := by decide +kernel
theorem dX10_init_150 : decode cX10_init 150 = .ok (.bipush 80, 2) := by decide +kernel
theorem dX10_init_152 : decode cX10_init 152 = .ok (.newarray .int, 2) := by decide +kernel
theorem dX10_init_154 : decode cX10_init 154 = .ok (.putfield 66, 3) := by decide +kernel
theorem dX10_init_157 : decode cX10_init 157 = .ok (.aload_n 0, 1) := by decide +kernel
theorem dX10_init_158 : decode cX10_init 158 = .ok (.bipush 8, 2) := by decide +kernel
theorem dX10_init_160 : decode cX10_init 160 = .ok (.newarray .int, 2) := by decide +kernel
theorem dX10_init_162 : decode cX10_init 162 = .ok (.putfield 69, 3) := by decide +kernel
theorem dX10_init_165 : decode cX10_init 165 = .ok (.aload_n 0, 1) := by decide +kernel
theorem dX10_init_166 : decode cX10_init 166 = .ok (.iconst 2, 1) := by decide +kernel
theorem dX10_init_167 : decode cX10_init 167 = .ok (.newarray .int, 2) := by decide +kernel
theorem dX10_init_169 : decode cX10_init 169 = .ok (.putfield 72, 3) := by decide +kernel
theorem dX10_init_172 : decode cX10_init 172 = .ok (.aload_n 0, 1) := by decide +kernel
theorem dX10_init_173 : decode cX10_init 173 = .ok (.iconst (-1), 1) := by decide +kernel
theorem dX10_init_174 : decode cX10_init 174 = .ok (.putfield 75, 3) := by decide +kernel
theorem dX10_init_177 : decode cX10_init 177 = .ok (.aload_n 0, 1) := by decide +kernel
theorem dX10_init_178 : decode cX10_init 178 = .ok (.sipush 1000, 3) := by decide +kernel
theorem dX10_init_181 : decode cX10_init 181 = .ok (.newarray .int, 2) := by decide +kernel
theorem dX10_init_183 : decode cX10_init 183 = .ok (.putfield 79, 3) := by decide +kernel
theorem dX10_init_186 : decode cX10_init 186 = .ok (.aload_n 0, 1) := by decide +kernel
theorem dX10_init_187 : decode cX10_init 187 = .ok (.iconst 2, 1) := by decide +kernel
theorem dX10_init_188 : decode cX10_init 188 = .ok (.newarray .int, 2) := by decide +kernel
theorem dX10_init_190 : decode cX10_init 190 = .ok (.putfield 82, 3) := by decide +kernel
theorem dX10_init_193 : decode cX10_init 193 = .ok (.aload_n 0, 1) := by decide +kernel
theorem dX10_init_194 : decode cX10_init 194 = .ok (.iconst 2, 1) := by decide +kernel
theorem dX10_init_195 : decode cX10_init 195 = .ok (.newarray .long, 2) := by decide +kernel
theorem dX10_init_197 : decode cX10_init 197 = .ok (.putfield 85, 3) := by decide +kernel
theorem dX10_init_200 : decode cX10_init 200 = .ok (.aload_n 0, 1) := by decide +kernel
theorem dX10_init_201 : decode cX10_init 201 = .ok (.iconst (-1), 1) := by decide +kernel
theorem dX10_init_202 : decode cX10_init 202 = .ok (.putfield 88, 3) := by decide +kernel
theorem dX10_init_205 : decode cX10_init 205 = .ok (.aload_n 0, 1) := by decide +kernel
theorem dX10_init_206 : decode cX10_init 206 = .ok (.bipush 40, 2) := by decide +kernel
theorem dX10_init_208 : decode cX10_init 208 = .ok (.newarray .boolean, 2) := by decide +kernel
theorem dX10_init_210 : decode cX10_init 210 = .ok (.putfield 91, 3) := by decide +kernel
theorem dX10_init_213 : decode cX10_init 213 = .ok (.aload_n 0, 1) := by decide +kernel
theorem dX10_init_214 : decode cX10_init 214 = .ok (.bipush 68, 2) := by decide +kernel
theorem dX10_init_216 : decode cX10_init 216 = .ok (.newarray .long, 2) := by decide +kernel
theorem dX10_init_218 : decode cX10_init 218 = .ok (.putfield 94, 3) := by decide +kernel
theorem dX10_init_221 : decode cX10_init 221 = .ok (.aload_n 0, 1) := by decide +kernel
theorem dX10_init_222 : decode cX10_init 222 = .ok (.iconst 2, 1) := by decide +kernel
theorem dX10_init_223 : decode cX10_init 223 = .ok (.newarray .int, 2) := by decide +kernel
theorem dX10_init_225 : decode cX10_init 225 = .ok (.putfield 97, 3) := by decide +kernel
theorem dX10_init_228 : decode cX10_init 228 = .ok (.aload_n 0, 1) := by decide +kernel
theorem dX10_init_229 : decode cX10_init 229 = .ok (.iconst 2, 1) := by decide +kernel
theorem dX10_init_230 : decode cX10_init 230 = .ok (.newarray .int, 2) := by decide +kernel
theorem dX10_init_232 : decode cX10_init 232 = .ok (.putfield 100, 3) := by decide +kernel
theorem dX10_init_235 : decode cX10_init 235 = .ok (.aload_n 0, 1) := by decide +kernel
theorem dX10_init_236 : decode cX10_init 236 = .ok (.iconst 4, 1) := by decide +kernel
theorem dX10_init_237 : decode cX10_init 237 = .ok (.newarray .long, 2) := by decide +kernel
theorem dX10_init_239 : decode cX10_init 239 = .ok (.putfield 103, 3) := by decide +kernel
theorem dX10_init_242 : decode cX10_init 242 = .ok (.iconst 0, 1) := by decide +kernel
theorem dX10_init_243 : decode cX10_init 243 = .ok (.istore_n 1, 1) := by decide +kernel
theorem dX10_init_244 : decode cX10_init 244 = .ok (.iload_n 1, 1) := by decide +kernel
theorem dX10_init_245 : decode cX10_init 245 = .ok (.bipush 12, 2) := by decide +kernel
theorem dX10_init_247 : decode cX10_init 247 = .ok (.if_icmp .ge 16, 3) := by decide +kernel
theorem dX10_init_250 : decode cX10_init 250 = .ok (.aload_n 0, 1) := by decide +kernel
theorem dX10_init_251 : decode cX10_init 251 = .ok (.getfield 7, 3) := by decide +kernel
theorem dX10_init_254 : decode cX10_init 254 = .ok (.iload_n 1, 1) := by decide +kernel
theorem dX10_init_255 : decode cX10_init 255 = .ok (.iconst (-1), 1) := by decide +kernel
theorem dX10_init_256 : decode cX10_init 256 = .ok (.iastore, 1) := by decide +kernel
theorem dX10_init_257 : decode cX10_init 257 = .ok (.iinc 1 1, 3) := by decide +kernel
theorem dX10_init_260 : decode cX10_init 260 = .ok (.goto (-16), 3) := by decide +kernel
theorem dX10_init_263 : decode cX10_init 263 = .ok (.aload_n 0, 1) := by decide +kernel
theorem dX10_init_264 : decode cX10_init 264 = .ok (.getfield 72, 3) := by decide +kernel
theorem dX10_init_267 : decode cX10_init 267 = .ok (.iconst 0, 1) := by decide +kernel
theorem dX10_init_268 : decode cX10_init 268 = .ok (.iconst (-1), 1) := by decide +kernel
theorem dX10_init_269 : decode cX10_init 269 = .ok (.iastore, 1) := by decide +kernel
theorem dX10_init_270 : decode cX10_init 270 = .ok (.aload_n 0, 1) := by decide +kernel
theorem dX10_init_271 : decode cX10_init 271 = .ok (.getfield 72, 3) := by decide +kernel
theorem dX10_init_274 : decode cX10_init 274 = .ok (.iconst 1, 1) := by decide +kernel
theorem dX10_init_275 : decode cX10_init 275 = .ok (.iconst (-1), 1) := by decide +kernel
theorem dX10_init_276 : decode cX10_init 276 = .ok (.iastore, 1) := by decide +kernel
theorem dX10_init_277 : decode cX10_init 277 = .ok (.return_, 1) := by decide +kernel
theorem dX10_isClass_0 : decode cX10_isClass 0 = .ok (.iload_n 0, 1) := by decide +kernel
theorem dX10_isClass_1 : decode cX10_isClass 1 = .ok (.ifCond .lt 13, 3) := by decide +kernel
theorem dX10_isClass_4 : decode cX10_isClass 4 = .ok (.iload_n 0, 1) := by decide +kernel
theorem dX10_isClass_5 : decode cX10_isClass 5 = .ok (.bipush 12, 2) := by decide +kernel
theorem dX10_isClass_7 : decode cX10_isClass 7 = .ok (.if_icmp .ge 7, 3) := by decide +kernel
theorem dX10_isClass_10 : decode cX10_isClass 10 = .ok (.iconst 1, 1) := by decide +kernel
theorem dX10_isClass_11 : decode cX10_isClass 11 = .ok (.goto 4, 3) := by decide +kernel
theorem dX10_isClass_14 : decode cX10_isClass 14 = .ok (.iconst 0, 1) := by decide +kernel
theorem dX10_isClass_15 : decode cX10_isClass 15 = .ok (.ireturn, 1) := by decide +kernel
theorem dX10_isTrait_0 : decode cX10_isTrait 0 = .ok (.iload_n 0, 1) := by decide +kernel
theorem dX10_isTrait_1 : decode cX10_isTrait 1 = .ok (.bipush 12, 2) := by decide +kernel
theorem dX10_isTrait_3 : decode cX10_isTrait 3 = .ok (.if_icmp .lt 13, 3) := by decide +kernel
theorem dX10_isTrait_6 : decode cX10_isTrait 6 = .ok (.iload_n 0, 1) := by decide +kernel
theorem dX10_isTrait_7 : decode cX10_isTrait 7 = .ok (.bipush 16, 2) := by decide +kernel
theorem dX10_isTrait_9 : decode cX10_isTrait 9 = .ok (.if_icmp .ge 7, 3) := by decide +kernel
theorem dX10_isTrait_12 : decode cX10_isTrait 12 = .ok (.iconst 1, 1) := by decide +kernel
theorem dX10_isTrait_13 : decode cX10_isTrait 13 = .ok (.goto 4, 3) := by decide +kernel
theorem dX10_isTrait_16 : decode cX10_isTrait 16 = .ok (.iconst 0, 1) := by decide +kernel
theorem dX10_isTrait_17 : decode cX10_isTrait 17 = .ok (.ireturn, 1) := by decide +kernel
theorem dX10_parent_0 : decode cX10_parent 0 = .ok (.iload_n 1, 1) := by decide +kernel
theorem dX10_parent_1 : decode cX10_parent 1 = .ok (.invokestatic 106, 3) := by decide +kernel
theorem dX10_parent_4 : decode cX10_parent 4 = .ok (.ifCond .eq 15, 3) := by decide +kernel
theorem dX10_parent_7 : decode cX10_parent 7 = .ok (.iload_n 2, 1) := by decide +kernel
theorem dX10_parent_8 : decode cX10_parent 8 = .ok (.iconst (-1), 1) := by decide +kernel
theorem dX10_parent_9 : decode cX10_parent 9 = .ok (.if_icmp .eq 13, 3) := by decide +kernel
theorem dX10_parent_12 : decode cX10_parent 12 = .ok (.iload_n 2, 1) := by decide +kernel
theorem dX10_parent_13 : decode cX10_parent 13 = .ok (.invokestatic 106, 3) := by decide +kernel
theorem dX10_parent_16 : decode cX10_parent 16 = .ok (.ifCond .ne 6, 3) := by decide +kernel
theorem dX10_parent_19 : decode cX10_parent 19 = .ok (.bipush (-2), 2) := by decide +kernel
theorem dX10_parent_21 : decode cX10_parent 21 = .ok (.ireturn, 1) := by decide +kernel
theorem dX10_parent_22 : decode cX10_parent 22 = .ok (.aload_n 0, 1) := by decide +kernel
theorem dX10_parent_23 : decode cX10_parent 23 = .ok (.getfield 110, 3) := by decide +kernel
theorem dX10_parent_26 : decode cX10_parent 26 = .ok (.ifCond .eq 6, 3) := by decide +kernel
theorem dX10_parent_29 : decode cX10_parent 29 = .ok (.bipush (-3), 2) := by decide +kernel
theorem dX10_parent_31 : decode cX10_parent 31 = .ok (.ireturn, 1) := by decide +kernel
theorem dX10_parent_32 : decode cX10_parent 32 = .ok (.aload_n 0, 1) := by decide +kernel
theorem dX10_parent_33 : decode cX10_parent 33 = .ok (.getfield 7, 3) := by decide +kernel
theorem dX10_parent_36 : decode cX10_parent 36 = .ok (.iload_n 1, 1) := by decide +kernel
theorem dX10_parent_37 : decode cX10_parent 37 = .ok (.iload_n 2, 1) := by decide +kernel
theorem dX10_parent_38 : decode cX10_parent 38 = .ok (.iastore, 1) := by decide +kernel
theorem dX10_parent_39 : decode cX10_parent 39 = .ok (.iconst 1, 1) := by decide +kernel
theorem dX10_parent_40 : decode cX10_parent 40 = .ok (.ireturn, 1) := by decide +kernel
theorem dX10_add_0 : decode cX10_add 0 = .ok (.aload_n 0, 1) := by decide +kernel
theorem dX10_add_1 : decode cX10_add 1 = .ok (.getfield 110, 3) := by decide +kernel
theorem dX10_add_4 : decode cX10_add 4 = .ok (.ifCond .eq 6, 3) := by decide +kernel
theorem dX10_add_7 : decode cX10_add 7 = .ok (.bipush (-3), 2) := by decide +kernel
theorem dX10_add_9 : decode cX10_add 9 = .ok (.ireturn, 1) := by decide +kernel
theorem dX10_add_10 : decode cX10_add 10 = .ok (.aload_n 0, 1) := by decide +kernel
theorem dX10_add_11 : decode cX10_add 11 = .ok (.getfield 13, 3) := by decide +kernel
theorem dX10_add_14 : decode cX10_add 14 = .ok (.bipush 16, 2) := by decide +kernel
theorem dX10_add_16 : decode cX10_add 16 = .ok (.iload_n 1, 1) := by decide +kernel
theorem dX10_add_17 : decode cX10_add 17 = .ok (.imul, 1) := by decide +kernel
theorem dX10_add_18 : decode cX10_add 18 = .ok (.iload_n 2, 1) := by decide +kernel
theorem dX10_add_19 : decode cX10_add 19 = .ok (.iadd, 1) := by decide +kernel
theorem dX10_add_20 : decode cX10_add 20 = .ok (.baload, 1) := by decide +kernel
theorem dX10_add_21 : decode cX10_add 21 = .ok (.ifCond .eq 7, 3) := by decide +kernel
theorem dX10_add_24 : decode cX10_add 24 = .ok (.iconst 0, 1) := by decide +kernel
theorem dX10_add_25 : decode cX10_add 25 = .ok (.goto 4, 3) := by decide +kernel
theorem dX10_add_28 : decode cX10_add 28 = .ok (.iconst 1, 1) := by decide +kernel
theorem dX10_add_29 : decode cX10_add 29 = .ok (.istore_n 3, 1) := by decide +kernel
theorem dX10_add_30 : decode cX10_add 30 = .ok (.aload_n 0, 1) := by decide +kernel
theorem dX10_add_31 : decode cX10_add 31 = .ok (.getfield 13, 3) := by decide +kernel
theorem dX10_add_34 : decode cX10_add 34 = .ok (.bipush 16, 2) := by decide +kernel
theorem dX10_add_36 : decode cX10_add 36 = .ok (.iload_n 1, 1) := by decide +kernel
theorem dX10_add_37 : decode cX10_add 37 = .ok (.imul, 1) := by decide +kernel
theorem dX10_add_38 : decode cX10_add 38 = .ok (.iload_n 2, 1) := by decide +kernel
theorem dX10_add_39 : decode cX10_add 39 = .ok (.iadd, 1) := by decide +kernel
theorem dX10_add_40 : decode cX10_add 40 = .ok (.iconst 1, 1) := by decide +kernel
theorem dX10_add_41 : decode cX10_add 41 = .ok (.bastore, 1) := by decide +kernel
theorem dX10_add_42 : decode cX10_add 42 = .ok (.iload_n 3, 1) := by decide +kernel
theorem dX10_add_43 : decode cX10_add 43 = .ok (.ireturn, 1) := by decide +kernel
theorem dX10_trait_0 : decode cX10_trait 0 = .ok (.iload_n 1, 1) := by decide +kernel
theorem dX10_trait_1 : decode cX10_trait 1 = .ok (.invokestatic 114, 3) := by decide +kernel
theorem dX10_trait_4 : decode cX10_trait 4 = .ok (.ifCond .eq 19, 3) := by decide +kernel
theorem dX10_trait_7 : decode cX10_trait 7 = .ok (.iload_n 2, 1) := by decide +kernel
theorem dX10_trait_8 : decode cX10_trait 8 = .ok (.invokestatic 114, 3) := by decide +kernel
theorem dX10_trait_11 : decode cX10_trait 11 = .ok (.ifCond .eq 12, 3) := by decide +kernel
theorem dX10_trait_14 : decode cX10_trait 14 = .ok (.aload_n 0, 1) := by decide +kernel
theorem dX10_trait_15 : decode cX10_trait 15 = .ok (.iload_n 1, 1) := by decide +kernel
theorem dX10_trait_16 : decode cX10_trait 16 = .ok (.iload_n 2, 1) := by decide +kernel
theorem dX10_trait_17 : decode cX10_trait 17 = .ok (.invokevirtual 117, 3) := by decide +kernel
theorem dX10_trait_20 : decode cX10_trait 20 = .ok (.goto 5, 3) := by decide +kernel
theorem dX10_trait_23 : decode cX10_trait 23 = .ok (.bipush (-2), 2) := by decide +kernel
theorem dX10_trait_25 : decode cX10_trait 25 = .ok (.ireturn, 1) := by decide +kernel
theorem dX10_has_0 : decode cX10_has 0 = .ok (.iload_n 1, 1) := by decide +kernel
theorem dX10_has_1 : decode cX10_has 1 = .ok (.invokestatic 106, 3) := by decide +kernel
theorem dX10_has_4 : decode cX10_has 4 = .ok (.ifCond .eq 19, 3) := by decide +kernel
theorem dX10_has_7 : decode cX10_has 7 = .ok (.iload_n 2, 1) := by decide +kernel
theorem dX10_has_8 : decode cX10_has 8 = .ok (.invokestatic 114, 3) := by decide +kernel
theorem dX10_has_11 : decode cX10_has 11 = .ok (.ifCond .eq 12, 3) := by decide +kernel
theorem dX10_has_14 : decode cX10_has 14 = .ok (.aload_n 0, 1) := by decide +kernel
theorem dX10_has_15 : decode cX10_has 15 = .ok (.iload_n 1, 1) := by decide +kernel
theorem dX10_has_16 : decode cX10_has 16 = .ok (.iload_n 2, 1) := by decide +kernel
theorem dX10_has_17 : decode cX10_has 17 = .ok (.invokevirtual 117, 3) := by decide +kernel
theorem dX10_has_20 : decode cX10_has 20 = .ok (.goto 5, 3) := by decide +kernel
theorem dX10_has_23 : decode cX10_has 23 = .ok (.bipush (-2), 2) := by decide +kernel
theorem dX10_has_25 : decode cX10_has 25 = .ok (.ireturn, 1) := by decide +kernel
theorem dX10_flag_0 : decode cX10_flag 0 = .ok (.iload_n 1, 1) := by decide +kernel
theorem dX10_flag_1 : decode cX10_flag 1 = .ok (.invokestatic 106, 3) := by decide +kernel
theorem dX10_flag_4 : decode cX10_flag 4 = .ok (.ifCond .ne 6, 3) := by decide +kernel
theorem dX10_flag_7 : decode cX10_flag 7 = .ok (.bipush (-2), 2) := by decide +kernel
theorem dX10_flag_9 : decode cX10_flag 9 = .ok (.ireturn, 1) := by decide +kernel
theorem dX10_flag_10 : decode cX10_flag 10 = .ok (.aload_n 0, 1) := by decide +kernel
theorem dX10_flag_11 : decode cX10_flag 11 = .ok (.getfield 110, 3) := by decide +kernel
theorem dX10_flag_14 : decode cX10_flag 14 = .ok (.ifCond .eq 6, 3) := by decide +kernel
theorem dX10_flag_17 : decode cX10_flag 17 = .ok (.bipush (-3), 2) := by decide +kernel
theorem dX10_flag_19 : decode cX10_flag 19 = .ok (.ireturn, 1) := by decide +kernel
theorem dX10_flag_20 : decode cX10_flag 20 = .ok (.aload_n 0, 1) := by decide +kernel
theorem dX10_flag_21 : decode cX10_flag 21 = .ok (.getfield 20, 3) := by decide +kernel
theorem dX10_flag_24 : decode cX10_flag 24 = .ok (.iload_n 1, 1) := by decide +kernel
theorem dX10_flag_25 : decode cX10_flag 25 = .ok (.baload, 1) := by decide +kernel
theorem dX10_flag_26 : decode cX10_flag 26 = .ok (.ifCond .eq 7, 3) := by decide +kernel
theorem dX10_flag_29 : decode cX10_flag 29 = .ok (.iconst 0, 1) := by decide +kernel
theorem dX10_flag_30 : decode cX10_flag 30 = .ok (.goto 4, 3) := by decide +kernel
theorem dX10_flag_33 : decode cX10_flag 33 = .ok (.iconst 1, 1) := by decide +kernel
theorem dX10_flag_34 : decode cX10_flag 34 = .ok (.istore_n 2, 1) := by decide +kernel
theorem dX10_flag_35 : decode cX10_flag 35 = .ok (.aload_n 0, 1) := by decide +kernel
theorem dX10_flag_36 : decode cX10_flag 36 = .ok (.getfield 20, 3) := by decide +kernel
theorem dX10_flag_39 : decode cX10_flag 39 = .ok (.iload_n 1, 1) := by decide +kernel
theorem dX10_flag_40 : decode cX10_flag 40 = .ok (.iconst 1, 1) := by decide +kernel
theorem dX10_flag_41 : decode cX10_flag 41 = .ok (.bastore, 1) := by decide +kernel
theorem dX10_flag_42 : decode cX10_flag 42 = .ok (.iload_n 2, 1) := by decide +kernel
theorem dX10_flag_43 : decode cX10_flag 43 = .ok (.ireturn, 1) := by decide +kernel
theorem dX10_close_0 : decode cX10_close 0 = .ok (.aload_n 0, 1) := by decide +kernel
theorem dX10_close_1 : decode cX10_close 1 = .ok (.getfield 110, 3) := by decide +kernel
theorem dX10_close_4 : decode cX10_close 4 = .ok (.ifCond .eq 6, 3) := by decide +kernel
theorem dX10_close_7 : decode cX10_close 7 = .ok (.bipush (-3), 2) := by decide +kernel
theorem dX10_close_9 : decode cX10_close 9 = .ok (.ireturn, 1) := by decide +kernel
theorem dX10_close_10 : decode cX10_close 10 = .ok (.iconst 0, 1) := by decide +kernel
theorem dX10_close_11 : decode cX10_close 11 = .ok (.istore_n 1, 1) := by decide +kernel
theorem dX10_close_12 : decode cX10_close 12 = .ok (.iload_n 1, 1) := by decide +kernel
theorem dX10_close_13 : decode cX10_close 13 = .ok (.sipush 256, 3) := by decide +kernel
theorem dX10_close_16 : decode cX10_close 16 = .ok (.if_icmp .ge 21, 3) := by decide +kernel
theorem dX10_close_19 : decode cX10_close 19 = .ok (.aload_n 0, 1) := by decide +kernel
theorem dX10_close_20 : decode cX10_close 20 = .ok (.getfield 17, 3) := by decide +kernel
theorem dX10_close_23 : decode cX10_close 23 = .ok (.iload_n 1, 1) := by decide +kernel
theorem dX10_close_24 : decode cX10_close 24 = .ok (.aload_n 0, 1) := by decide +kernel
theorem dX10_close_25 : decode cX10_close 25 = .ok (.getfield 13, 3) := by decide +kernel
theorem dX10_close_28 : decode cX10_close 28 = .ok (.iload_n 1, 1) := by decide +kernel
theorem dX10_close_29 : decode cX10_close 29 = .ok (.baload, 1) := by decide +kernel
theorem dX10_close_30 : decode cX10_close 30 = .ok (.bastore, 1) := by decide +kernel
theorem dX10_close_31 : decode cX10_close 31 = .ok (.iinc 1 1, 3) := by decide +kernel
theorem dX10_close_34 : decode cX10_close 34 = .ok (.goto (-22), 3) := by decide +kernel
theorem dX10_close_37 : decode cX10_close 37 = .ok (.iconst 0, 1) := by decide +kernel
theorem dX10_close_38 : decode cX10_close 38 = .ok (.istore_n 1, 1) := by decide +kernel
theorem dX10_close_39 : decode cX10_close 39 = .ok (.iload_n 1, 1) := by decide +kernel
theorem dX10_close_40 : decode cX10_close 40 = .ok (.bipush 12, 2) := by decide +kernel
theorem dX10_close_42 : decode cX10_close 42 = .ok (.if_icmp .ge 35, 3) := by decide +kernel
theorem dX10_close_45 : decode cX10_close 45 = .ok (.aload_n 0, 1) := by decide +kernel
theorem dX10_close_46 : decode cX10_close 46 = .ok (.getfield 7, 3) := by decide +kernel
theorem dX10_close_49 : decode cX10_close 49 = .ok (.iload_n 1, 1) := by decide +kernel
theorem dX10_close_50 : decode cX10_close 50 = .ok (.iaload, 1) := by decide +kernel
theorem dX10_close_51 : decode cX10_close 51 = .ok (.ifCond .lt 20, 3) := by decide +kernel
theorem dX10_close_54 : decode cX10_close 54 = .ok (.aload_n 0, 1) := by decide +kernel
theorem dX10_close_55 : decode cX10_close 55 = .ok (.getfield 17, 3) := by decide +kernel
theorem dX10_close_58 : decode cX10_close 58 = .ok (.bipush 16, 2) := by decide +kernel
theorem dX10_close_60 : decode cX10_close 60 = .ok (.iload_n 1, 1) := by decide +kernel
theorem dX10_close_61 : decode cX10_close 61 = .ok (.imul, 1) := by decide +kernel
theorem dX10_close_62 : decode cX10_close 62 = .ok (.aload_n 0, 1) := by decide +kernel
theorem dX10_close_63 : decode cX10_close 63 = .ok (.getfield 7, 3) := by decide +kernel
theorem dX10_close_66 : decode cX10_close 66 = .ok (.iload_n 1, 1) := by decide +kernel
theorem dX10_close_67 : decode cX10_close 67 = .ok (.iaload, 1) := by decide +kernel
theorem dX10_close_68 : decode cX10_close 68 = .ok (.iadd, 1) := by decide +kernel
theorem dX10_close_69 : decode cX10_close 69 = .ok (.iconst 1, 1) := by decide +kernel
theorem dX10_close_70 : decode cX10_close 70 = .ok (.bastore, 1) := by decide +kernel
theorem dX10_close_71 : decode cX10_close 71 = .ok (.iinc 1 1, 3) := by decide +kernel
theorem dX10_close_74 : decode cX10_close 74 = .ok (.goto (-35), 3) := by decide +kernel
theorem dX10_close_77 : decode cX10_close 77 = .ok (.iconst 0, 1) := by decide +kernel
theorem dX10_close_78 : decode cX10_close 78 = .ok (.istore_n 1, 1) := by decide +kernel
theorem dX10_close_79 : decode cX10_close 79 = .ok (.iload_n 1, 1) := by decide +kernel
theorem dX10_close_80 : decode cX10_close 80 = .ok (.bipush 16, 2) := by decide +kernel
theorem dX10_close_82 : decode cX10_close 82 = .ok (.if_icmp .ge 95, 3) := by decide +kernel
theorem dX10_close_85 : decode cX10_close 85 = .ok (.iconst 0, 1) := by decide +kernel
theorem dX10_close_86 : decode cX10_close 86 = .ok (.istore_n 2, 1) := by decide +kernel
theorem dX10_close_87 : decode cX10_close 87 = .ok (.iload_n 2, 1) := by decide +kernel
theorem dX10_close_88 : decode cX10_close 88 = .ok (.bipush 16, 2) := by decide +kernel
theorem dX10_close_90 : decode cX10_close 90 = .ok (.if_icmp .ge 81, 3) := by decide +kernel
theorem dX10_close_93 : decode cX10_close 93 = .ok (.iconst 0, 1) := by decide +kernel
theorem dX10_close_94 : decode cX10_close 94 = .ok (.istore_n 3, 1) := by decide +kernel
theorem dX10_close_95 : decode cX10_close 95 = .ok (.iload_n 3, 1) := by decide +kernel
theorem dX10_close_96 : decode cX10_close 96 = .ok (.bipush 16, 2) := by decide +kernel
theorem dX10_close_98 : decode cX10_close 98 = .ok (.if_icmp .ge 67, 3) := by decide +kernel
theorem dX10_close_101 : decode cX10_close 101 = .ok (.aload_n 0, 1) := by decide +kernel
theorem dX10_close_102 : decode cX10_close 102 = .ok (.getfield 17, 3) := by decide +kernel
theorem dX10_close_105 : decode cX10_close 105 = .ok (.bipush 16, 2) := by decide +kernel
theorem dX10_close_107 : decode cX10_close 107 = .ok (.iload_n 2, 1) := by decide +kernel
theorem dX10_close_108 : decode cX10_close 108 = .ok (.imul, 1) := by decide +kernel
theorem dX10_close_109 : decode cX10_close 109 = .ok (.iload_n 3, 1) := by decide +kernel
theorem dX10_close_110 : decode cX10_close 110 = .ok (.iadd, 1) := by decide +kernel
theorem dX10_close_111 : decode cX10_close 111 = .ok (.aload_n 0, 1) := by decide +kernel
theorem dX10_close_112 : decode cX10_close 112 = .ok (.getfield 17, 3) := by decide +kernel
theorem dX10_close_115 : decode cX10_close 115 = .ok (.bipush 16, 2) := by decide +kernel
theorem dX10_close_117 : decode cX10_close 117 = .ok (.iload_n 2, 1) := by decide +kernel
theorem dX10_close_118 : decode cX10_close 118 = .ok (.imul, 1) := by decide +kernel
theorem dX10_close_119 : decode cX10_close 119 = .ok (.iload_n 3, 1) := by decide +kernel
theorem dX10_close_120 : decode cX10_close 120 = .ok (.iadd, 1) := by decide +kernel
theorem dX10_close_121 : decode cX10_close 121 = .ok (.baload, 1) := by decide +kernel
theorem dX10_close_122 : decode cX10_close 122 = .ok (.ifCond .ne 31, 3) := by decide +kernel
theorem dX10_close_125 : decode cX10_close 125 = .ok (.aload_n 0, 1) := by decide +kernel
theorem dX10_close_126 : decode cX10_close 126 = .ok (.getfield 17, 3) := by decide +kernel
theorem dX10_close_129 : decode cX10_close 129 = .ok (.bipush 16, 2) := by decide +kernel
theorem dX10_close_131 : decode cX10_close 131 = .ok (.iload_n 2, 1) := by decide +kernel
theorem dX10_close_132 : decode cX10_close 132 = .ok (.imul, 1) := by decide +kernel
theorem dX10_close_133 : decode cX10_close 133 = .ok (.iload_n 1, 1) := by decide +kernel
theorem dX10_close_134 : decode cX10_close 134 = .ok (.iadd, 1) := by decide +kernel
theorem dX10_close_135 : decode cX10_close 135 = .ok (.baload, 1) := by decide +kernel
theorem dX10_close_136 : decode cX10_close 136 = .ok (.ifCond .eq 21, 3) := by decide +kernel
theorem dX10_close_139 : decode cX10_close 139 = .ok (.aload_n 0, 1) := by decide +kernel
theorem dX10_close_140 : decode cX10_close 140 = .ok (.getfield 17, 3) := by decide +kernel
theorem dX10_close_143 : decode cX10_close 143 = .ok (.bipush 16, 2) := by decide +kernel
theorem dX10_close_145 : decode cX10_close 145 = .ok (.iload_n 1, 1) := by decide +kernel
theorem dX10_close_146 : decode cX10_close 146 = .ok (.imul, 1) := by decide +kernel
theorem dX10_close_147 : decode cX10_close 147 = .ok (.iload_n 3, 1) := by decide +kernel
theorem dX10_close_148 : decode cX10_close 148 = .ok (.iadd, 1) := by decide +kernel
theorem dX10_close_149 : decode cX10_close 149 = .ok (.baload, 1) := by decide +kernel
theorem dX10_close_150 : decode cX10_close 150 = .ok (.ifCond .eq 7, 3) := by decide +kernel
theorem dX10_close_153 : decode cX10_close 153 = .ok (.iconst 1, 1) := by decide +kernel
theorem dX10_close_154 : decode cX10_close 154 = .ok (.goto 4, 3) := by decide +kernel
theorem dX10_close_157 : decode cX10_close 157 = .ok (.iconst 0, 1) := by decide +kernel
theorem dX10_close_158 : decode cX10_close 158 = .ok (.bastore, 1) := by decide +kernel
theorem dX10_close_159 : decode cX10_close 159 = .ok (.iinc 3 1, 3) := by decide +kernel
theorem dX10_close_162 : decode cX10_close 162 = .ok (.goto (-67), 3) := by decide +kernel
theorem dX10_close_165 : decode cX10_close 165 = .ok (.iinc 2 1, 3) := by decide +kernel
theorem dX10_close_168 : decode cX10_close 168 = .ok (.goto (-81), 3) := by decide +kernel
theorem dX10_close_171 : decode cX10_close 171 = .ok (.iinc 1 1, 3) := by decide +kernel
theorem dX10_close_174 : decode cX10_close 174 = .ok (.goto (-95), 3) := by decide +kernel
theorem dX10_close_177 : decode cX10_close 177 = .ok (.iconst 0, 1) := by decide +kernel
theorem dX10_close_178 : decode cX10_close 178 = .ok (.istore_n 1, 1) := by decide +kernel
theorem dX10_close_179 : decode cX10_close 179 = .ok (.iload_n 1, 1) := by decide +kernel
theorem dX10_close_180 : decode cX10_close 180 = .ok (.bipush 16, 2) := by decide +kernel
theorem dX10_close_182 : decode cX10_close 182 = .ok (.if_icmp .ge 24, 3) := by decide +kernel
theorem dX10_close_185 : decode cX10_close 185 = .ok (.aload_n 0, 1) := by decide +kernel
theorem dX10_close_186 : decode cX10_close 186 = .ok (.getfield 17, 3) := by decide +kernel
theorem dX10_close_189 : decode cX10_close 189 = .ok (.bipush 17, 2) := by decide +kernel
theorem dX10_close_191 : decode cX10_close 191 = .ok (.iload_n 1, 1) := by decide +kernel
theorem dX10_close_192 : decode cX10_close 192 = .ok (.imul, 1) := by decide +kernel
theorem dX10_close_193 : decode cX10_close 193 = .ok (.baload, 1) := by decide +kernel
theorem dX10_close_194 : decode cX10_close 194 = .ok (.ifCond .eq 6, 3) := by decide +kernel
theorem dX10_close_197 : decode cX10_close 197 = .ok (.bipush (-5), 2) := by decide +kernel
theorem dX10_close_199 : decode cX10_close 199 = .ok (.ireturn, 1) := by decide +kernel
theorem dX10_close_200 : decode cX10_close 200 = .ok (.iinc 1 1, 3) := by decide +kernel
theorem dX10_close_203 : decode cX10_close 203 = .ok (.goto (-24), 3) := by decide +kernel
theorem dX10_close_206 : decode cX10_close 206 = .ok (.iconst 0, 1) := by decide +kernel
theorem dX10_close_207 : decode cX10_close 207 = .ok (.istore_n 1, 1) := by decide +kernel
theorem dX10_close_208 : decode cX10_close 208 = .ok (.iload_n 1, 1) := by decide +kernel
theorem dX10_close_209 : decode cX10_close 209 = .ok (.bipush 16, 2) := by decide +kernel
theorem dX10_close_211 : decode cX10_close 211 = .ok (.if_icmp .ge 19, 3) := by decide +kernel
theorem dX10_close_214 : decode cX10_close 214 = .ok (.aload_n 0, 1) := by decide +kernel
theorem dX10_close_215 : decode cX10_close 215 = .ok (.getfield 17, 3) := by decide +kernel
theorem dX10_close_218 : decode cX10_close 218 = .ok (.bipush 17, 2) := by decide +kernel
theorem dX10_close_220 : decode cX10_close 220 = .ok (.iload_n 1, 1) := by decide +kernel
theorem dX10_close_221 : decode cX10_close 221 = .ok (.imul, 1) := by decide +kernel
theorem dX10_close_222 : decode cX10_close 222 = .ok (.iconst 1, 1) := by decide +kernel
theorem dX10_close_223 : decode cX10_close 223 = .ok (.bastore, 1) := by decide +kernel
theorem dX10_close_224 : decode cX10_close 224 = .ok (.iinc 1 1, 3) := by decide +kernel
theorem dX10_close_227 : decode cX10_close 227 = .ok (.goto (-19), 3) := by decide +kernel
theorem dX10_close_230 : decode cX10_close 230 = .ok (.aload_n 0, 1) := by decide +kernel
theorem dX10_close_231 : decode cX10_close 231 = .ok (.iconst 1, 1) := by decide +kernel
theorem dX10_close_232 : decode cX10_close 232 = .ok (.putfield 110, 3) := by decide +kernel
theorem dX10_close_235 : decode cX10_close 235 = .ok (.iconst 1, 1) := by decide +kernel
theorem dX10_close_236 : decode cX10_close 236 = .ok (.ireturn, 1) := by decide +kernel
theorem dX10_isBelow_0 : decode cX10_isBelow 0 = .ok (.aload_n 0, 1) := by decide +kernel
theorem dX10_isBelow_1 : decode cX10_isBelow 1 = .ok (.getfield 17, 3) := by decide +kernel
theorem dX10_isBelow_4 : decode cX10_isBelow 4 = .ok (.bipush 16, 2) := by decide +kernel
theorem dX10_isBelow_6 : decode cX10_isBelow 6 = .ok (.iload_n 1, 1) := by decide +kernel
theorem dX10_isBelow_7 : decode cX10_isBelow 7 = .ok (.imul, 1) := by decide +kernel
theorem dX10_isBelow_8 : decode cX10_isBelow 8 = .ok (.iload_n 2, 1) := by decide +kernel
theorem dX10_isBelow_9 : decode cX10_isBelow 9 = .ok (.iadd, 1) := by decide +kernel
theorem dX10_isBelow_10 : decode cX10_isBelow 10 = .ok (.baload, 1) := by decide +kernel
theorem dX10_isBelow_11 : decode cX10_isBelow 11 = .ok (.ireturn, 1) := by decide +kernel
theorem dX10_below_0 : decode cX10_below 0 = .ok (.aload_n 0, 1) := by decide +kernel
theorem dX10_below_1 : decode cX10_below 1 = .ok (.getfield 110, 3) := by decide +kernel
theorem dX10_below_4 : decode cX10_below 4 = .ok (.ifCond .eq 36, 3) := by decide +kernel
theorem dX10_below_7 : decode cX10_below 7 = .ok (.iload_n 1, 1) := by decide +kernel
theorem dX10_below_8 : decode cX10_below 8 = .ok (.ifCond .lt 32, 3) := by decide +kernel
theorem dX10_below_11 : decode cX10_below 11 = .ok (.iload_n 1, 1) := by decide +kernel
theorem dX10_below_12 : decode cX10_below 12 = .ok (.bipush 16, 2) := by decide +kernel
theorem dX10_below_14 : decode cX10_below 14 = .ok (.if_icmp .ge 26, 3) := by decide +kernel
theorem dX10_below_17 : decode cX10_below 17 = .ok (.iload_n 2, 1) := by decide +kernel
theorem dX10_below_18 : decode cX10_below 18 = .ok (.ifCond .lt 22, 3) := by decide +kernel
theorem dX10_below_21 : decode cX10_below 21 = .ok (.iload_n 2, 1) := by decide +kernel
theorem dX10_below_22 : decode cX10_below 22 = .ok (.bipush 16, 2) := by decide +kernel
theorem dX10_below_24 : decode cX10_below 24 = .ok (.if_icmp .ge 16, 3) := by decide +kernel
theorem dX10_below_27 : decode cX10_below 27 = .ok (.aload_n 0, 1) := by decide +kernel
theorem dX10_below_28 : decode cX10_below 28 = .ok (.iload_n 1, 1) := by decide +kernel
theorem dX10_below_29 : decode cX10_below 29 = .ok (.iload_n 2, 1) := by decide +kernel
theorem dX10_below_30 : decode cX10_below 30 = .ok (.invokevirtual 121, 3) := by decide +kernel
theorem dX10_below_33 : decode cX10_below 33 = .ok (.ifCond .eq 7, 3) := by decide +kernel
theorem dX10_below_36 : decode cX10_below 36 = .ok (.iconst 1, 1) := by decide +kernel
theorem dX10_below_37 : decode cX10_below 37 = .ok (.goto 4, 3) := by decide +kernel
theorem dX10_below_40 : decode cX10_below 40 = .ok (.iconst 0, 1) := by decide +kernel
theorem dX10_below_41 : decode cX10_below 41 = .ok (.ireturn, 1) := by decide +kernel
theorem dX10_sample_0 : decode cX10_sample 0 = .ok (.iload_n 1, 1) := by decide +kernel
theorem dX10_sample_1 : decode cX10_sample 1 = .ok (.invokestatic 106, 3) := by decide +kernel
theorem dX10_sample_4 : decode cX10_sample 4 = .ok (.ifCond .ne 6, 3) := by decide +kernel
theorem dX10_sample_7 : decode cX10_sample 7 = .ok (.bipush (-2), 2) := by decide +kernel
theorem dX10_sample_9 : decode cX10_sample 9 = .ok (.ireturn, 1) := by decide +kernel
theorem dX10_sample_10 : decode cX10_sample 10 = .ok (.aload_n 0, 1) := by decide +kernel
theorem dX10_sample_11 : decode cX10_sample 11 = .ok (.getfield 110, 3) := by decide +kernel
theorem dX10_sample_14 : decode cX10_sample 14 = .ok (.ifCond .ne 6, 3) := by decide +kernel
theorem dX10_sample_17 : decode cX10_sample 17 = .ok (.bipush (-3), 2) := by decide +kernel
theorem dX10_sample_19 : decode cX10_sample 19 = .ok (.ireturn, 1) := by decide +kernel
theorem dX10_sample_20 : decode cX10_sample 20 = .ok (.aload_n 0, 1) := by decide +kernel
theorem dX10_sample_21 : decode cX10_sample 21 = .ok (.getfield 20, 3) := by decide +kernel
theorem dX10_sample_24 : decode cX10_sample 24 = .ok (.iload_n 1, 1) := by decide +kernel
theorem dX10_sample_25 : decode cX10_sample 25 = .ok (.baload, 1) := by decide +kernel
theorem dX10_sample_26 : decode cX10_sample 26 = .ok (.ifCond .eq 6, 3) := by decide +kernel
theorem dX10_sample_29 : decode cX10_sample 29 = .ok (.bipush (-6), 2) := by decide +kernel
theorem dX10_sample_31 : decode cX10_sample 31 = .ok (.ireturn, 1) := by decide +kernel
theorem dX10_sample_32 : decode cX10_sample 32 = .ok (.aload_n 0, 1) := by decide +kernel
theorem dX10_sample_33 : decode cX10_sample 33 = .ok (.getfield 125, 3) := by decide +kernel
theorem dX10_sample_36 : decode cX10_sample 36 = .ok (.sipush 300, 3) := by decide +kernel
theorem dX10_sample_39 : decode cX10_sample 39 = .ok (.if_icmp .ne 6, 3) := by decide +kernel
theorem dX10_sample_42 : decode cX10_sample 42 = .ok (.bipush (-4), 2) := by decide +kernel
theorem dX10_sample_44 : decode cX10_sample 44 = .ok (.ireturn, 1) := by decide +kernel
theorem dX10_sample_45 : decode cX10_sample 45 = .ok (.aload_n 0, 1) := by decide +kernel
theorem dX10_sample_46 : decode cX10_sample 46 = .ok (.getfield 23, 3) := by decide +kernel
theorem dX10_sample_49 : decode cX10_sample 49 = .ok (.aload_n 0, 1) := by decide +kernel
theorem dX10_sample_50 : decode cX10_sample 50 = .ok (.getfield 125, 3) := by decide +kernel
theorem dX10_sample_53 : decode cX10_sample 53 = .ok (.iload_n 1, 1) := by decide +kernel
theorem dX10_sample_54 : decode cX10_sample 54 = .ok (.iastore, 1) := by decide +kernel
theorem dX10_sample_55 : decode cX10_sample 55 = .ok (.aload_n 0, 1) := by decide +kernel
theorem dX10_sample_56 : decode cX10_sample 56 = .ok (.getfield 26, 3) := by decide +kernel
theorem dX10_sample_59 : decode cX10_sample 59 = .ok (.aload_n 0, 1) := by decide +kernel
theorem dX10_sample_60 : decode cX10_sample 60 = .ok (.getfield 125, 3) := by decide +kernel
theorem dX10_sample_63 : decode cX10_sample 63 = .ok (.iload_n 2, 1) := by decide +kernel
theorem dX10_sample_64 : decode cX10_sample 64 = .ok (.iastore, 1) := by decide +kernel
theorem dX10_sample_65 : decode cX10_sample 65 = .ok (.aload_n 0, 1) := by decide +kernel
theorem dX10_sample_66 : decode cX10_sample 66 = .ok (.dup, 1) := by decide +kernel
theorem dX10_sample_67 : decode cX10_sample 67 = .ok (.getfield 125, 3) := by decide +kernel
theorem dX10_sample_70 : decode cX10_sample 70 = .ok (.iconst 1, 1) := by decide +kernel
theorem dX10_sample_71 : decode cX10_sample 71 = .ok (.iadd, 1) := by decide +kernel
theorem dX10_sample_72 : decode cX10_sample 72 = .ok (.putfield 125, 3) := by decide +kernel
theorem dX10_sample_75 : decode cX10_sample 75 = .ok (.aload_n 0, 1) := by decide +kernel
theorem dX10_sample_76 : decode cX10_sample 76 = .ok (.getfield 125, 3) := by decide +kernel
theorem dX10_sample_79 : decode cX10_sample 79 = .ok (.iconst 1, 1) := by decide +kernel
theorem dX10_sample_80 : decode cX10_sample 80 = .ok (.isub, 1) := by decide +kernel
theorem dX10_sample_81 : decode cX10_sample 81 = .ok (.ireturn, 1) := by decide +kernel
theorem dX10_of_0 : decode cX10_of 0 = .ok (.iload_n 1, 1) := by decide +kernel
theorem dX10_of_1 : decode cX10_of 1 = .ok (.ifCond .lt 20, 3) := by decide +kernel
theorem dX10_of_4 : decode cX10_of 4 = .ok (.iload_n 1, 1) := by decide +kernel
theorem dX10_of_5 : decode cX10_of 5 = .ok (.aload_n 0, 1) := by decide +kernel
theorem dX10_of_6 : decode cX10_of 6 = .ok (.getfield 125, 3) := by decide +kernel
theorem dX10_of_9 : decode cX10_of 9 = .ok (.if_icmp .ge 12, 3) := by decide +kernel
theorem dX10_of_12 : decode cX10_of 12 = .ok (.iload_n 2, 1) := by decide +kernel
theorem dX10_of_13 : decode cX10_of 13 = .ok (.ifCond .lt 8, 3) := by decide +kernel
theorem dX10_of_16 : decode cX10_of 16 = .ok (.iload_n 2, 1) := by decide +kernel
theorem dX10_of_17 : decode cX10_of 17 = .ok (.iconst 1, 1) := by decide +kernel
theorem dX10_of_18 : decode cX10_of 18 = .ok (.if_icmp .le 5, 3) := by decide +kernel
theorem dX10_of_21 : decode cX10_of 21 = .ok (.iconst (-1), 1) := by decide +kernel
theorem dX10_of_22 : decode cX10_of 22 = .ok (.ireturn, 1) := by decide +kernel
theorem dX10_of_23 : decode cX10_of 23 = .ok (.iload_n 2, 1) := by decide +kernel
theorem dX10_of_24 : decode cX10_of 24 = .ok (.ifCond .ne 12, 3) := by decide +kernel
theorem dX10_of_27 : decode cX10_of 27 = .ok (.aload_n 0, 1) := by decide +kernel
theorem dX10_of_28 : decode cX10_of 28 = .ok (.getfield 23, 3) := by decide +kernel
theorem dX10_of_31 : decode cX10_of 31 = .ok (.iload_n 1, 1) := by decide +kernel
theorem dX10_of_32 : decode cX10_of 32 = .ok (.iaload, 1) := by decide +kernel
theorem dX10_of_33 : decode cX10_of 33 = .ok (.goto 9, 3) := by decide +kernel
theorem dX10_of_36 : decode cX10_of 36 = .ok (.aload_n 0, 1) := by decide +kernel
theorem dX10_of_37 : decode cX10_of 37 = .ok (.getfield 26, 3) := by decide +kernel
theorem dX10_of_40 : decode cX10_of 40 = .ok (.iload_n 1, 1) := by decide +kernel
theorem dX10_of_41 : decode cX10_of 41 = .ok (.iaload, 1) := by decide +kernel
theorem dX10_of_42 : decode cX10_of 42 = .ok (.ireturn, 1) := by decide +kernel
theorem dX10_samples_0 : decode cX10_samples 0 = .ok (.aload_n 0, 1) := by decide +kernel
theorem dX10_samples_1 : decode cX10_samples 1 = .ok (.getfield 125, 3) := by decide +kernel
theorem dX10_samples_4 : decode cX10_samples 4 = .ok (.ireturn, 1) := by decide +kernel
theorem dX10_function_0 : decode cX10_function 0 = .ok (.iload_n 1, 1) := by decide +kernel
theorem dX10_function_1 : decode cX10_function 1 = .ok (.iconst 1, 1) := by decide +kernel
theorem dX10_function_2 : decode cX10_function 2 = .ok (.if_icmp .lt 8, 3) := by decide +kernel
theorem dX10_function_5 : decode cX10_function 5 = .ok (.iload_n 1, 1) := by decide +kernel
theorem dX10_function_6 : decode cX10_function 6 = .ok (.iconst 2, 1) := by decide +kernel
theorem dX10_function_7 : decode cX10_function 7 = .ok (.if_icmp .le 6, 3) := by decide +kernel
theorem dX10_function_10 : decode cX10_function 10 = .ok (.bipush (-2), 2) := by decide +kernel
theorem dX10_function_12 : decode cX10_function 12 = .ok (.ireturn, 1) := by decide +kernel
theorem dX10_function_13 : decode cX10_function 13 = .ok (.aload_n 0, 1) := by decide +kernel
theorem dX10_function_14 : decode cX10_function 14 = .ok (.getfield 110, 3) := by decide +kernel
theorem dX10_function_17 : decode cX10_function 17 = .ok (.ifCond .ne 6, 3) := by decide +kernel
theorem dX10_function_20 : decode cX10_function 20 = .ok (.bipush (-3), 2) := by decide +kernel
theorem dX10_function_22 : decode cX10_function 22 = .ok (.ireturn, 1) := by decide +kernel
theorem dX10_function_23 : decode cX10_function 23 = .ok (.aload_n 0, 1) := by decide +kernel
theorem dX10_function_24 : decode cX10_function 24 = .ok (.getfield 128, 3) := by decide +kernel
theorem dX10_function_27 : decode cX10_function 27 = .ok (.iconst 4, 1) := by decide +kernel
theorem dX10_function_28 : decode cX10_function 28 = .ok (.if_icmp .ne 6, 3) := by decide +kernel
theorem dX10_function_31 : decode cX10_function 31 = .ok (.bipush (-4), 2) := by decide +kernel
theorem dX10_function_33 : decode cX10_function 33 = .ok (.ireturn, 1) := by decide +kernel
theorem dX10_function_34 : decode cX10_function 34 = .ok (.aload_n 0, 1) := by decide +kernel
theorem dX10_function_35 : decode cX10_function 35 = .ok (.getfield 29, 3) := by decide +kernel
theorem dX10_function_38 : decode cX10_function 38 = .ok (.aload_n 0, 1) := by decide +kernel
theorem dX10_function_39 : decode cX10_function 39 = .ok (.getfield 128, 3) := by decide +kernel
theorem dX10_function_42 : decode cX10_function 42 = .ok (.iload_n 1, 1) := by decide +kernel
theorem dX10_function_43 : decode cX10_function 43 = .ok (.iastore, 1) := by decide +kernel
theorem dX10_function_44 : decode cX10_function 44 = .ok (.aload_n 0, 1) := by decide +kernel
theorem dX10_function_45 : decode cX10_function 45 = .ok (.dup, 1) := by decide +kernel
theorem dX10_function_46 : decode cX10_function 46 = .ok (.getfield 128, 3) := by decide +kernel
theorem dX10_function_49 : decode cX10_function 49 = .ok (.iconst 1, 1) := by decide +kernel
theorem dX10_function_50 : decode cX10_function 50 = .ok (.iadd, 1) := by decide +kernel
theorem dX10_function_51 : decode cX10_function 51 = .ok (.putfield 128, 3) := by decide +kernel
theorem dX10_function_54 : decode cX10_function 54 = .ok (.aload_n 0, 1) := by decide +kernel
theorem dX10_function_55 : decode cX10_function 55 = .ok (.getfield 128, 3) := by decide +kernel
theorem dX10_function_58 : decode cX10_function 58 = .ok (.iconst 1, 1) := by decide +kernel
theorem dX10_function_59 : decode cX10_function 59 = .ok (.isub, 1) := by decide +kernel
theorem dX10_function_60 : decode cX10_function 60 = .ok (.ireturn, 1) := by decide +kernel
theorem dX10_isFunction_0 : decode cX10_isFunction 0 = .ok (.iload_n 1, 1) := by decide +kernel
theorem dX10_isFunction_1 : decode cX10_isFunction 1 = .ok (.ifCond .lt 15, 3) := by decide +kernel
theorem dX10_isFunction_4 : decode cX10_isFunction 4 = .ok (.iload_n 1, 1) := by decide +kernel
theorem dX10_isFunction_5 : decode cX10_isFunction 5 = .ok (.aload_n 0, 1) := by decide +kernel
theorem dX10_isFunction_6 : decode cX10_isFunction 6 = .ok (.getfield 128, 3) := by decide +kernel
theorem dX10_isFunction_9 : decode cX10_isFunction 9 = .ok (.if_icmp .ge 7, 3) := by decide +kernel
theorem dX10_isFunction_12 : decode cX10_isFunction 12 = .ok (.iconst 1, 1) := by decide +kernel
theorem dX10_isFunction_13 : decode cX10_isFunction 13 = .ok (.goto 4, 3) := by decide +kernel
theorem dX10_isFunction_16 : decode cX10_isFunction 16 = .ok (.iconst 0, 1) := by decide +kernel
theorem dX10_isFunction_17 : decode cX10_isFunction 17 = .ok (.ireturn, 1) := by decide +kernel
theorem dX10_isHandler_0 : decode cX10_isHandler 0 = .ok (.iload_n 1, 1) := by decide +kernel
theorem dX10_isHandler_1 : decode cX10_isHandler 1 = .ok (.ifCond .lt 15, 3) := by decide +kernel
theorem dX10_isHandler_4 : decode cX10_isHandler 4 = .ok (.iload_n 1, 1) := by decide +kernel
theorem dX10_isHandler_5 : decode cX10_isHandler 5 = .ok (.aload_n 0, 1) := by decide +kernel
theorem dX10_isHandler_6 : decode cX10_isHandler 6 = .ok (.getfield 131, 3) := by decide +kernel
theorem dX10_isHandler_9 : decode cX10_isHandler 9 = .ok (.if_icmp .ge 7, 3) := by decide +kernel
theorem dX10_isHandler_12 : decode cX10_isHandler 12 = .ok (.iconst 1, 1) := by decide +kernel
theorem dX10_isHandler_13 : decode cX10_isHandler 13 = .ok (.goto 4, 3) := by decide +kernel
theorem dX10_isHandler_16 : decode cX10_isHandler 16 = .ok (.iconst 0, 1) := by decide +kernel
theorem dX10_isHandler_17 : decode cX10_isHandler 17 = .ok (.ireturn, 1) := by decide +kernel
theorem dX10_handler_0 : decode cX10_handler 0 = .ok (.aload_n 0, 1) := by decide +kernel
theorem dX10_handler_1 : decode cX10_handler 1 = .ok (.iload_n 1, 1) := by decide +kernel
theorem dX10_handler_2 : decode cX10_handler 2 = .ok (.invokevirtual 134, 3) := by decide +kernel
theorem dX10_handler_5 : decode cX10_handler 5 = .ok (.ifCond .eq 13, 3) := by decide +kernel
theorem dX10_handler_8 : decode cX10_handler 8 = .ok (.iload_n 2, 1) := by decide +kernel
theorem dX10_handler_9 : decode cX10_handler 9 = .ok (.ifCond .lt 9, 3) := by decide +kernel
theorem dX10_handler_12 : decode cX10_handler 12 = .ok (.iload_n 2, 1) := by decide +kernel
theorem dX10_handler_13 : decode cX10_handler 13 = .ok (.bipush 7, 2) := by decide +kernel
theorem dX10_handler_15 : decode cX10_handler 15 = .ok (.if_icmp .le 6, 3) := by decide +kernel
theorem dX10_handler_18 : decode cX10_handler 18 = .ok (.bipush (-2), 2) := by decide +kernel
theorem dX10_handler_20 : decode cX10_handler 20 = .ok (.ireturn, 1) := by decide +kernel
theorem dX10_handler_21 : decode cX10_handler 21 = .ok (.aload_n 0, 1) := by decide +kernel
theorem dX10_handler_22 : decode cX10_handler 22 = .ok (.getfield 131, 3) := by decide +kernel
theorem dX10_handler_25 : decode cX10_handler 25 = .ok (.bipush 40, 2) := by decide +kernel
theorem dX10_handler_27 : decode cX10_handler 27 = .ok (.if_icmp .ne 6, 3) := by decide +kernel
theorem dX10_handler_30 : decode cX10_handler 30 = .ok (.bipush (-4), 2) := by decide +kernel
theorem dX10_handler_32 : decode cX10_handler 32 = .ok (.ireturn, 1) := by decide +kernel
theorem dX10_handler_33 : decode cX10_handler 33 = .ok (.aload_n 0, 1) := by decide +kernel
theorem dX10_handler_34 : decode cX10_handler 34 = .ok (.getfield 131, 3) := by decide +kernel
theorem dX10_handler_37 : decode cX10_handler 37 = .ok (.istore 5, 2) := by decide +kernel
theorem dX10_handler_39 : decode cX10_handler 39 = .ok (.aload_n 0, 1) := by decide +kernel
theorem dX10_handler_40 : decode cX10_handler 40 = .ok (.dup, 1) := by decide +kernel
theorem dX10_handler_41 : decode cX10_handler 41 = .ok (.getfield 131, 3) := by decide +kernel
theorem dX10_handler_44 : decode cX10_handler 44 = .ok (.iconst 1, 1) := by decide +kernel
theorem dX10_handler_45 : decode cX10_handler 45 = .ok (.iadd, 1) := by decide +kernel
theorem dX10_handler_46 : decode cX10_handler 46 = .ok (.putfield 131, 3) := by decide +kernel
theorem dX10_handler_49 : decode cX10_handler 49 = .ok (.aload_n 0, 1) := by decide +kernel
theorem dX10_handler_50 : decode cX10_handler 50 = .ok (.getfield 45, 3) := by decide +kernel
theorem dX10_handler_53 : decode cX10_handler 53 = .ok (.iload 5, 2) := by decide +kernel
theorem dX10_handler_55 : decode cX10_handler 55 = .ok (.iload_n 1, 1) := by decide +kernel
theorem dX10_handler_56 : decode cX10_handler 56 = .ok (.iastore, 1) := by decide +kernel
theorem dX10_handler_57 : decode cX10_handler 57 = .ok (.aload_n 0, 1) := by decide +kernel
theorem dX10_handler_58 : decode cX10_handler 58 = .ok (.getfield 48, 3) := by decide +kernel
theorem dX10_handler_61 : decode cX10_handler 61 = .ok (.iload 5, 2) := by decide +kernel
theorem dX10_handler_63 : decode cX10_handler 63 = .ok (.iload_n 2, 1) := by decide +kernel
theorem dX10_handler_64 : decode cX10_handler 64 = .ok (.iastore, 1) := by decide +kernel
theorem dX10_handler_65 : decode cX10_handler 65 = .ok (.aload_n 0, 1) := by decide +kernel
theorem dX10_handler_66 : decode cX10_handler 66 = .ok (.getfield 51, 3) := by decide +kernel
theorem dX10_handler_69 : decode cX10_handler 69 = .ok (.iload 5, 2) := by decide +kernel
theorem dX10_handler_71 : decode cX10_handler 71 = .ok (.iload_n 3, 1) := by decide +kernel
theorem dX10_handler_72 : decode cX10_handler 72 = .ok (.iastore, 1) := by decide +kernel
theorem dX10_handler_73 : decode cX10_handler 73 = .ok (.aload_n 0, 1) := by decide +kernel
theorem dX10_handler_74 : decode cX10_handler 74 = .ok (.getfield 54, 3) := by decide +kernel
theorem dX10_handler_77 : decode cX10_handler 77 = .ok (.iload 5, 2) := by decide +kernel
theorem dX10_handler_79 : decode cX10_handler 79 = .ok (.iload 4, 2) := by decide +kernel
theorem dX10_handler_81 : decode cX10_handler 81 = .ok (.bastore, 1) := by decide +kernel
theorem dX10_handler_82 : decode cX10_handler 82 = .ok (.iconst 0, 1) := by decide +kernel
theorem dX10_handler_83 : decode cX10_handler 83 = .ok (.istore 6, 2) := by decide +kernel
theorem dX10_handler_85 : decode cX10_handler 85 = .ok (.iload 6, 2) := by decide +kernel
theorem dX10_handler_87 : decode cX10_handler 87 = .ok (.iconst 2, 1) := by decide +kernel
theorem dX10_handler_88 : decode cX10_handler 88 = .ok (.if_icmp .ge 50, 3) := by decide +kernel
theorem dX10_handler_91 : decode cX10_handler 91 = .ok (.aload_n 0, 1) := by decide +kernel
theorem dX10_handler_92 : decode cX10_handler 92 = .ok (.getfield 60, 3) := by decide +kernel
theorem dX10_handler_95 : decode cX10_handler 95 = .ok (.iconst 2, 1) := by decide +kernel
theorem dX10_handler_96 : decode cX10_handler 96 = .ok (.iload 5, 2) := by decide +kernel
theorem dX10_handler_98 : decode cX10_handler 98 = .ok (.imul, 1) := by decide +kernel
theorem dX10_handler_99 : decode cX10_handler 99 = .ok (.iload 6, 2) := by decide +kernel
theorem dX10_handler_101 : decode cX10_handler 101 = .ok (.iadd, 1) := by decide +kernel
theorem dX10_handler_102 : decode cX10_handler 102 = .ok (.iconst (-1), 1) := by decide +kernel
theorem dX10_handler_103 : decode cX10_handler 103 = .ok (.iastore, 1) := by decide +kernel
theorem dX10_handler_104 : decode cX10_handler 104 = .ok (.aload_n 0, 1) := by decide +kernel
theorem dX10_handler_105 : decode cX10_handler 105 = .ok (.getfield 63, 3) := by decide +kernel
theorem dX10_handler_108 : decode cX10_handler 108 = .ok (.iconst 2, 1) := by decide +kernel
theorem dX10_handler_109 : decode cX10_handler 109 = .ok (.iload 5, 2) := by decide +kernel
theorem dX10_handler_111 : decode cX10_handler 111 = .ok (.imul, 1) := by decide +kernel
theorem dX10_handler_112 : decode cX10_handler 112 = .ok (.iload 6, 2) := by decide +kernel
theorem dX10_handler_114 : decode cX10_handler 114 = .ok (.iadd, 1) := by decide +kernel
theorem dX10_handler_115 : decode cX10_handler 115 = .ok (.ldc 137, 2) := by decide +kernel
theorem dX10_handler_117 : decode cX10_handler 117 = .ok (.iastore, 1) := by decide +kernel
theorem dX10_handler_118 : decode cX10_handler 118 = .ok (.aload_n 0, 1) := by decide +kernel
theorem dX10_handler_119 : decode cX10_handler 119 = .ok (.getfield 66, 3) := by decide +kernel
theorem dX10_handler_122 : decode cX10_handler 122 = .ok (.iconst 2, 1) := by decide +kernel
theorem dX10_handler_123 : decode cX10_handler 123 = .ok (.iload 5, 2) := by decide +kernel
theorem dX10_handler_125 : decode cX10_handler 125 = .ok (.imul, 1) := by decide +kernel
theorem dX10_handler_126 : decode cX10_handler 126 = .ok (.iload 6, 2) := by decide +kernel
theorem dX10_handler_128 : decode cX10_handler 128 = .ok (.iadd, 1) := by decide +kernel
theorem dX10_handler_129 : decode cX10_handler 129 = .ok (.ldc 138, 2) := by decide +kernel
theorem dX10_handler_131 : decode cX10_handler 131 = .ok (.iastore, 1) := by decide +kernel
theorem dX10_handler_132 : decode cX10_handler 132 = .ok (.iinc 6 1, 3) := by decide +kernel
theorem dX10_handler_135 : decode cX10_handler 135 = .ok (.goto (-50), 3) := by decide +kernel
theorem dX10_handler_138 : decode cX10_handler 138 = .ok (.iload 5, 2) := by decide +kernel
theorem dX10_handler_140 : decode cX10_handler 140 = .ok (.ireturn, 1) := by decide +kernel
theorem dX10_hasPlace_0 : decode cX10_hasPlace 0 = .ok (.aload_n 0, 1) := by decide +kernel
theorem dX10_hasPlace_1 : decode cX10_hasPlace 1 = .ok (.iload_n 1, 1) := by decide +kernel
theorem dX10_hasPlace_2 : decode cX10_hasPlace 2 = .ok (.invokevirtual 139, 3) := by decide +kernel
theorem dX10_hasPlace_5 : decode cX10_hasPlace 5 = .ok (.ifCond .eq 26, 3) := by decide +kernel
theorem dX10_hasPlace_8 : decode cX10_hasPlace 8 = .ok (.iload_n 2, 1) := by decide +kernel
theorem dX10_hasPlace_9 : decode cX10_hasPlace 9 = .ok (.ifCond .lt 22, 3) := by decide +kernel
theorem dX10_hasPlace_12 : decode cX10_hasPlace 12 = .ok (.iload_n 2, 1) := by decide +kernel
theorem dX10_hasPlace_13 : decode cX10_hasPlace 13 = .ok (.aload_n 0, 1) := by decide +kernel
theorem dX10_hasPlace_14 : decode cX10_hasPlace 14 = .ok (.getfield 29, 3) := by decide +kernel
theorem dX10_hasPlace_17 : decode cX10_hasPlace 17 = .ok (.aload_n 0, 1) := by decide +kernel
theorem dX10_hasPlace_18 : decode cX10_hasPlace 18 = .ok (.getfield 45, 3) := by decide +kernel
theorem dX10_hasPlace_21 : decode cX10_hasPlace 21 = .ok (.iload_n 1, 1) := by decide +kernel
theorem dX10_hasPlace_22 : decode cX10_hasPlace 22 = .ok (.iaload, 1) := by decide +kernel
theorem dX10_hasPlace_23 : decode cX10_hasPlace 23 = .ok (.iaload, 1) := by decide +kernel
theorem dX10_hasPlace_24 : decode cX10_hasPlace 24 = .ok (.if_icmp .ge 7, 3) := by decide +kernel
theorem dX10_hasPlace_27 : decode cX10_hasPlace 27 = .ok (.iconst 1, 1) := by decide +kernel
theorem dX10_hasPlace_28 : decode cX10_hasPlace 28 = .ok (.goto 4, 3) := by decide +kernel
theorem dX10_hasPlace_31 : decode cX10_hasPlace 31 = .ok (.iconst 0, 1) := by decide +kernel
theorem dX10_hasPlace_32 : decode cX10_hasPlace 32 = .ok (.ireturn, 1) := by decide +kernel
theorem dX10_place_0 : decode cX10_place 0 = .ok (.aload_n 0, 1) := by decide +kernel
theorem dX10_place_1 : decode cX10_place 1 = .ok (.iload_n 1, 1) := by decide +kernel
theorem dX10_place_2 : decode cX10_place 2 = .ok (.iload_n 2, 1) := by decide +kernel
theorem dX10_place_3 : decode cX10_place 3 = .ok (.invokevirtual 142, 3) := by decide +kernel
theorem dX10_place_6 : decode cX10_place 6 = .ok (.ifCond .eq 14, 3) := by decide +kernel
theorem dX10_place_9 : decode cX10_place 9 = .ok (.iload_n 3, 1) := by decide +kernel
theorem dX10_place_10 : decode cX10_place 10 = .ok (.iconst (-1), 1) := by decide +kernel
theorem dX10_place_11 : decode cX10_place 11 = .ok (.if_icmp .lt 9, 3) := by decide +kernel
theorem dX10_place_14 : decode cX10_place 14 = .ok (.iload_n 3, 1) := by decide +kernel
theorem dX10_place_15 : decode cX10_place 15 = .ok (.bipush 15, 2) := by decide +kernel
theorem dX10_place_17 : decode cX10_place 17 = .ok (.if_icmp .le 6, 3) := by decide +kernel
theorem dX10_place_20 : decode cX10_place 20 = .ok (.bipush (-2), 2) := by decide +kernel
theorem dX10_place_22 : decode cX10_place 22 = .ok (.ireturn, 1) := by decide +kernel
theorem dX10_place_23 : decode cX10_place 23 = .ok (.aload_n 0, 1) := by decide +kernel
theorem dX10_place_24 : decode cX10_place 24 = .ok (.getfield 57, 3) := by decide +kernel
theorem dX10_place_27 : decode cX10_place 27 = .ok (.iload_n 1, 1) := by decide +kernel
theorem dX10_place_28 : decode cX10_place 28 = .ok (.iaload, 1) := by decide +kernel
theorem dX10_place_29 : decode cX10_place 29 = .ok (.ifCond .eq 6, 3) := by decide +kernel
theorem dX10_place_32 : decode cX10_place 32 = .ok (.bipush (-3), 2) := by decide +kernel
theorem dX10_place_34 : decode cX10_place 34 = .ok (.ireturn, 1) := by decide +kernel
theorem dX10_place_35 : decode cX10_place 35 = .ok (.aload_n 0, 1) := by decide +kernel
theorem dX10_place_36 : decode cX10_place 36 = .ok (.getfield 60, 3) := by decide +kernel
theorem dX10_place_39 : decode cX10_place 39 = .ok (.iconst 2, 1) := by decide +kernel
theorem dX10_place_40 : decode cX10_place 40 = .ok (.iload_n 1, 1) := by decide +kernel
theorem dX10_place_41 : decode cX10_place 41 = .ok (.imul, 1) := by decide +kernel
theorem dX10_place_42 : decode cX10_place 42 = .ok (.iload_n 2, 1) := by decide +kernel
theorem dX10_place_43 : decode cX10_place 43 = .ok (.iadd, 1) := by decide +kernel
theorem dX10_place_44 : decode cX10_place 44 = .ok (.iload_n 3, 1) := by decide +kernel
theorem dX10_place_45 : decode cX10_place 45 = .ok (.iastore, 1) := by decide +kernel
theorem dX10_place_46 : decode cX10_place 46 = .ok (.iconst 1, 1) := by decide +kernel
theorem dX10_place_47 : decode cX10_place 47 = .ok (.ireturn, 1) := by decide +kernel
theorem dX10_test_0 : decode cX10_test 0 = .ok (.aload_n 0, 1) := by decide +kernel
theorem dX10_test_1 : decode cX10_test 1 = .ok (.iload_n 1, 1) := by decide +kernel
theorem dX10_test_2 : decode cX10_test 2 = .ok (.iload_n 2, 1) := by decide +kernel
theorem dX10_test_3 : decode cX10_test 3 = .ok (.invokevirtual 142, 3) := by decide +kernel
theorem dX10_test_6 : decode cX10_test 6 = .ok (.ifCond .eq 9, 3) := by decide +kernel
theorem dX10_test_9 : decode cX10_test 9 = .ok (.iload_n 3, 1) := by decide +kernel
theorem dX10_test_10 : decode cX10_test 10 = .ok (.iload 4, 2) := by decide +kernel
theorem dX10_test_12 : decode cX10_test 12 = .ok (.if_icmp .le 6, 3) := by decide +kernel
theorem dX10_test_15 : decode cX10_test 15 = .ok (.bipush (-2), 2) := by decide +kernel
theorem dX10_test_17 : decode cX10_test 17 = .ok (.ireturn, 1) := by decide +kernel
theorem dX10_test_18 : decode cX10_test 18 = .ok (.aload_n 0, 1) := by decide +kernel
theorem dX10_test_19 : decode cX10_test 19 = .ok (.getfield 57, 3) := by decide +kernel
theorem dX10_test_22 : decode cX10_test 22 = .ok (.iload_n 1, 1) := by decide +kernel
theorem dX10_test_23 : decode cX10_test 23 = .ok (.iaload, 1) := by decide +kernel
theorem dX10_test_24 : decode cX10_test 24 = .ok (.ifCond .eq 6, 3) := by decide +kernel
theorem dX10_test_27 : decode cX10_test 27 = .ok (.bipush (-3), 2) := by decide +kernel
theorem dX10_test_29 : decode cX10_test 29 = .ok (.ireturn, 1) := by decide +kernel
theorem dX10_test_30 : decode cX10_test 30 = .ok (.aload_n 0, 1) := by decide +kernel
theorem dX10_test_31 : decode cX10_test 31 = .ok (.getfield 63, 3) := by decide +kernel
theorem dX10_test_34 : decode cX10_test 34 = .ok (.iconst 2, 1) := by decide +kernel
theorem dX10_test_35 : decode cX10_test 35 = .ok (.iload_n 1, 1) := by decide +kernel
theorem dX10_test_36 : decode cX10_test 36 = .ok (.imul, 1) := by decide +kernel
theorem dX10_test_37 : decode cX10_test 37 = .ok (.iload_n 2, 1) := by decide +kernel
theorem dX10_test_38 : decode cX10_test 38 = .ok (.iadd, 1) := by decide +kernel
theorem dX10_test_39 : decode cX10_test 39 = .ok (.iload_n 3, 1) := by decide +kernel
theorem dX10_test_40 : decode cX10_test 40 = .ok (.iastore, 1) := by decide +kernel
theorem dX10_test_41 : decode cX10_test 41 = .ok (.aload_n 0, 1) := by decide +kernel
theorem dX10_test_42 : decode cX10_test 42 = .ok (.getfield 66, 3) := by decide +kernel
theorem dX10_test_45 : decode cX10_test 45 = .ok (.iconst 2, 1) := by decide +kernel
theorem dX10_test_46 : decode cX10_test 46 = .ok (.iload_n 1, 1) := by decide +kernel
theorem dX10_test_47 : decode cX10_test 47 = .ok (.imul, 1) := by decide +kernel
theorem dX10_test_48 : decode cX10_test 48 = .ok (.iload_n 2, 1) := by decide +kernel
theorem dX10_test_49 : decode cX10_test 49 = .ok (.iadd, 1) := by decide +kernel
theorem dX10_test_50 : decode cX10_test 50 = .ok (.iload 4, 2) := by decide +kernel
theorem dX10_test_52 : decode cX10_test 52 = .ok (.iastore, 1) := by decide +kernel
theorem dX10_test_53 : decode cX10_test 53 = .ok (.iconst 1, 1) := by decide +kernel
theorem dX10_test_54 : decode cX10_test 54 = .ok (.ireturn, 1) := by decide +kernel
theorem dX10_isLaid_0 : decode cX10_isLaid 0 = .ok (.aload_n 0, 1) := by decide +kernel
theorem dX10_isLaid_1 : decode cX10_isLaid 1 = .ok (.getfield 45, 3) := by decide +kernel
theorem dX10_isLaid_4 : decode cX10_isLaid 4 = .ok (.iload_n 1, 1) := by decide +kernel
theorem dX10_isLaid_5 : decode cX10_isLaid 5 = .ok (.iaload, 1) := by decide +kernel
theorem dX10_isLaid_6 : decode cX10_isLaid 6 = .ok (.iload_n 2, 1) := by decide +kernel
theorem dX10_isLaid_7 : decode cX10_isLaid 7 = .ok (.if_icmp .ne 17, 3) := by decide +kernel
theorem dX10_isLaid_10 : decode cX10_isLaid 10 = .ok (.aload_n 0, 1) := by decide +kernel
theorem dX10_isLaid_11 : decode cX10_isLaid 11 = .ok (.getfield 57, 3) := by decide +kernel
theorem dX10_isLaid_14 : decode cX10_isLaid 14 = .ok (.iload_n 1, 1) := by decide +kernel
theorem dX10_isLaid_15 : decode cX10_isLaid 15 = .ok (.iaload, 1) := by decide +kernel
theorem dX10_isLaid_16 : decode cX10_isLaid 16 = .ok (.iconst 1, 1) := by decide +kernel
theorem dX10_isLaid_17 : decode cX10_isLaid 17 = .ok (.if_icmp .ne 7, 3) := by decide +kernel
theorem dX10_isLaid_20 : decode cX10_isLaid 20 = .ok (.iconst 1, 1) := by decide +kernel
theorem dX10_isLaid_21 : decode cX10_isLaid 21 = .ok (.goto 4, 3) := by decide +kernel
theorem dX10_isLaid_24 : decode cX10_isLaid 24 = .ok (.iconst 0, 1) := by decide +kernel
theorem dX10_isLaid_25 : decode cX10_isLaid 25 = .ok (.ireturn, 1) := by decide +kernel
theorem dX10_laid_0 : decode cX10_laid 0 = .ok (.iconst 0, 1) := by decide +kernel
theorem dX10_laid_1 : decode cX10_laid 1 = .ok (.istore_n 2, 1) := by decide +kernel
theorem dX10_laid_2 : decode cX10_laid 2 = .ok (.iconst 0, 1) := by decide +kernel
theorem dX10_laid_3 : decode cX10_laid 3 = .ok (.istore_n 3, 1) := by decide +kernel
theorem dX10_laid_4 : decode cX10_laid 4 = .ok (.iload_n 3, 1) := by decide +kernel
theorem dX10_laid_5 : decode cX10_laid 5 = .ok (.aload_n 0, 1) := by decide +kernel
theorem dX10_laid_6 : decode cX10_laid 6 = .ok (.getfield 131, 3) := by decide +kernel
theorem dX10_laid_9 : decode cX10_laid 9 = .ok (.if_icmp .ge 26, 3) := by decide +kernel
theorem dX10_laid_12 : decode cX10_laid 12 = .ok (.iload_n 2, 1) := by decide +kernel
theorem dX10_laid_13 : decode cX10_laid 13 = .ok (.aload_n 0, 1) := by decide +kernel
theorem dX10_laid_14 : decode cX10_laid 14 = .ok (.iload_n 3, 1) := by decide +kernel
theorem dX10_laid_15 : decode cX10_laid 15 = .ok (.iload_n 1, 1) := by decide +kernel
theorem dX10_laid_16 : decode cX10_laid 16 = .ok (.invokevirtual 145, 3) := by decide +kernel
theorem dX10_laid_19 : decode cX10_laid 19 = .ok (.ifCond .eq 7, 3) := by decide +kernel
theorem dX10_laid_22 : decode cX10_laid 22 = .ok (.iconst 1, 1) := by decide +kernel
theorem dX10_laid_23 : decode cX10_laid 23 = .ok (.goto 4, 3) := by decide +kernel
theorem dX10_laid_26 : decode cX10_laid 26 = .ok (.iconst 0, 1) := by decide +kernel
theorem dX10_laid_27 : decode cX10_laid 27 = .ok (.iadd, 1) := by decide +kernel
theorem dX10_laid_28 : decode cX10_laid 28 = .ok (.istore_n 2, 1) := by decide +kernel
theorem dX10_laid_29 : decode cX10_laid 29 = .ok (.iinc 3 1, 3) := by decide +kernel
theorem dX10_laid_32 : decode cX10_laid 32 = .ok (.goto (-28), 3) := by decide +kernel
theorem dX10_laid_35 : decode cX10_laid 35 = .ok (.iload_n 2, 1) := by decide +kernel
theorem dX10_laid_36 : decode cX10_laid 36 = .ok (.ireturn, 1) := by decide +kernel
theorem dX10_areSame_0 : decode cX10_areSame 0 = .ok (.aload_n 0, 1) := by decide +kernel
theorem dX10_areSame_1 : decode cX10_areSame 1 = .ok (.getfield 60, 3) := by decide +kernel
theorem dX10_areSame_4 : decode cX10_areSame 4 = .ok (.iconst 2, 1) := by decide +kernel
theorem dX10_areSame_5 : decode cX10_areSame 5 = .ok (.iload_n 1, 1) := by decide +kernel
theorem dX10_areSame_6 : decode cX10_areSame 6 = .ok (.imul, 1) := by decide +kernel
theorem dX10_areSame_7 : decode cX10_areSame 7 = .ok (.iload_n 3, 1) := by decide +kernel
theorem dX10_areSame_8 : decode cX10_areSame 8 = .ok (.iadd, 1) := by decide +kernel
theorem dX10_areSame_9 : decode cX10_areSame 9 = .ok (.iaload, 1) := by decide +kernel
theorem dX10_areSame_10 : decode cX10_areSame 10 = .ok (.aload_n 0, 1) := by decide +kernel
theorem dX10_areSame_11 : decode cX10_areSame 11 = .ok (.getfield 60, 3) := by decide +kernel
theorem dX10_areSame_14 : decode cX10_areSame 14 = .ok (.iconst 2, 1) := by decide +kernel
theorem dX10_areSame_15 : decode cX10_areSame 15 = .ok (.iload_n 2, 1) := by decide +kernel
theorem dX10_areSame_16 : decode cX10_areSame 16 = .ok (.imul, 1) := by decide +kernel
theorem dX10_areSame_17 : decode cX10_areSame 17 = .ok (.iload_n 3, 1) := by decide +kernel
theorem dX10_areSame_18 : decode cX10_areSame 18 = .ok (.iadd, 1) := by decide +kernel
theorem dX10_areSame_19 : decode cX10_areSame 19 = .ok (.iaload, 1) := by decide +kernel
theorem dX10_areSame_20 : decode cX10_areSame 20 = .ok (.if_icmp .ne 53, 3) := by decide +kernel
theorem dX10_areSame_23 : decode cX10_areSame 23 = .ok (.aload_n 0, 1) := by decide +kernel
theorem dX10_areSame_24 : decode cX10_areSame 24 = .ok (.getfield 63, 3) := by decide +kernel
theorem dX10_areSame_27 : decode cX10_areSame 27 = .ok (.iconst 2, 1) := by decide +kernel
theorem dX10_areSame_28 : decode cX10_areSame 28 = .ok (.iload_n 1, 1) := by decide +kernel
theorem dX10_areSame_29 : decode cX10_areSame 29 = .ok (.imul, 1) := by decide +kernel
theorem dX10_areSame_30 : decode cX10_areSame 30 = .ok (.iload_n 3, 1) := by decide +kernel
theorem dX10_areSame_31 : decode cX10_areSame 31 = .ok (.iadd, 1) := by decide +kernel
theorem dX10_areSame_32 : decode cX10_areSame 32 = .ok (.iaload, 1) := by decide +kernel
theorem dX10_areSame_33 : decode cX10_areSame 33 = .ok (.aload_n 0, 1) := by decide +kernel
theorem dX10_areSame_34 : decode cX10_areSame 34 = .ok (.getfield 63, 3) := by decide +kernel
theorem dX10_areSame_37 : decode cX10_areSame 37 = .ok (.iconst 2, 1) := by decide +kernel
theorem dX10_areSame_38 : decode cX10_areSame 38 = .ok (.iload_n 2, 1) := by decide +kernel
theorem dX10_areSame_39 : decode cX10_areSame 39 = .ok (.imul, 1) := by decide +kernel
theorem dX10_areSame_40 : decode cX10_areSame 40 = .ok (.iload_n 3, 1) := by decide +kernel
theorem dX10_areSame_41 : decode cX10_areSame 41 = .ok (.iadd, 1) := by decide +kernel
theorem dX10_areSame_42 : decode cX10_areSame 42 = .ok (.iaload, 1) := by decide +kernel
theorem dX10_areSame_43 : decode cX10_areSame 43 = .ok (.if_icmp .ne 30, 3) := by decide +kernel
theorem dX10_areSame_46 : decode cX10_areSame 46 = .ok (.aload_n 0, 1) := by decide +kernel
theorem dX10_areSame_47 : decode cX10_areSame 47 = .ok (.getfield 66, 3) := by decide +kernel
theorem dX10_areSame_50 : decode cX10_areSame 50 = .ok (.iconst 2, 1) := by decide +kernel
theorem dX10_areSame_51 : decode cX10_areSame 51 = .ok (.iload_n 1, 1) := by decide +kernel
theorem dX10_areSame_52 : decode cX10_areSame 52 = .ok (.imul, 1) := by decide +kernel
theorem dX10_areSame_53 : decode cX10_areSame 53 = .ok (.iload_n 3, 1) := by decide +kernel
theorem dX10_areSame_54 : decode cX10_areSame 54 = .ok (.iadd, 1) := by decide +kernel
theorem dX10_areSame_55 : decode cX10_areSame 55 = .ok (.iaload, 1) := by decide +kernel
theorem dX10_areSame_56 : decode cX10_areSame 56 = .ok (.aload_n 0, 1) := by decide +kernel
theorem dX10_areSame_57 : decode cX10_areSame 57 = .ok (.getfield 66, 3) := by decide +kernel
theorem dX10_areSame_60 : decode cX10_areSame 60 = .ok (.iconst 2, 1) := by decide +kernel
theorem dX10_areSame_61 : decode cX10_areSame 61 = .ok (.iload_n 2, 1) := by decide +kernel
theorem dX10_areSame_62 : decode cX10_areSame 62 = .ok (.imul, 1) := by decide +kernel
theorem dX10_areSame_63 : decode cX10_areSame 63 = .ok (.iload_n 3, 1) := by decide +kernel
theorem dX10_areSame_64 : decode cX10_areSame 64 = .ok (.iadd, 1) := by decide +kernel
theorem dX10_areSame_65 : decode cX10_areSame 65 = .ok (.iaload, 1) := by decide +kernel
theorem dX10_areSame_66 : decode cX10_areSame 66 = .ok (.if_icmp .ne 7, 3) := by decide +kernel
theorem dX10_areSame_69 : decode cX10_areSame 69 = .ok (.iconst 1, 1) := by decide +kernel
theorem dX10_areSame_70 : decode cX10_areSame 70 = .ok (.goto 4, 3) := by decide +kernel
theorem dX10_areSame_73 : decode cX10_areSame 73 = .ok (.iconst 0, 1) := by decide +kernel
theorem dX10_areSame_74 : decode cX10_areSame 74 = .ok (.ireturn, 1) := by decide +kernel
theorem dX10_isNarrower_0 : decode cX10_isNarrower 0 = .ok (.aload_n 0, 1) := by decide +kernel
theorem dX10_isNarrower_1 : decode cX10_isNarrower 1 = .ok (.getfield 60, 3) := by decide +kernel
theorem dX10_isNarrower_4 : decode cX10_isNarrower 4 = .ok (.iconst 2, 1) := by decide +kernel
theorem dX10_isNarrower_5 : decode cX10_isNarrower 5 = .ok (.iload_n 1, 1) := by decide +kernel
theorem dX10_isNarrower_6 : decode cX10_isNarrower 6 = .ok (.imul, 1) := by decide +kernel
theorem dX10_isNarrower_7 : decode cX10_isNarrower 7 = .ok (.iload_n 3, 1) := by decide +kernel
theorem dX10_isNarrower_8 : decode cX10_isNarrower 8 = .ok (.iadd, 1) := by decide +kernel
theorem dX10_isNarrower_9 : decode cX10_isNarrower 9 = .ok (.iaload, 1) := by decide +kernel
theorem dX10_isNarrower_10 : decode cX10_isNarrower 10 = .ok (.istore 4, 2) := by decide +kernel
theorem dX10_isNarrower_12 : decode cX10_isNarrower 12 = .ok (.aload_n 0, 1) := by decide +kernel
theorem dX10_isNarrower_13 : decode cX10_isNarrower 13 = .ok (.getfield 60, 3) := by decide +kernel
theorem dX10_isNarrower_16 : decode cX10_isNarrower 16 = .ok (.iconst 2, 1) := by decide +kernel
theorem dX10_isNarrower_17 : decode cX10_isNarrower 17 = .ok (.iload_n 2, 1) := by decide +kernel
theorem dX10_isNarrower_18 : decode cX10_isNarrower 18 = .ok (.imul, 1) := by decide +kernel
theorem dX10_isNarrower_19 : decode cX10_isNarrower 19 = .ok (.iload_n 3, 1) := by decide +kernel
theorem dX10_isNarrower_20 : decode cX10_isNarrower 20 = .ok (.iadd, 1) := by decide +kernel
theorem dX10_isNarrower_21 : decode cX10_isNarrower 21 = .ok (.iaload, 1) := by decide +kernel
theorem dX10_isNarrower_22 : decode cX10_isNarrower 22 = .ok (.istore 5, 2) := by decide +kernel
theorem dX10_isNarrower_24 : decode cX10_isNarrower 24 = .ok (.iload 4, 2) := by decide +kernel
theorem dX10_isNarrower_26 : decode cX10_isNarrower 26 = .ok (.iload 5, 2) := by decide +kernel
theorem dX10_isNarrower_28 : decode cX10_isNarrower 28 = .ok (.if_icmp .eq 32, 3) := by decide +kernel
theorem dX10_isNarrower_31 : decode cX10_isNarrower 31 = .ok (.iload 4, 2) := by decide +kernel
theorem dX10_isNarrower_33 : decode cX10_isNarrower 33 = .ok (.iconst (-1), 1) := by decide +kernel
theorem dX10_isNarrower_34 : decode cX10_isNarrower 34 = .ok (.if_icmp .eq 24, 3) := by decide +kernel
theorem dX10_isNarrower_37 : decode cX10_isNarrower 37 = .ok (.iload 5, 2) := by decide +kernel
theorem dX10_isNarrower_39 : decode cX10_isNarrower 39 = .ok (.iconst (-1), 1) := by decide +kernel
theorem dX10_isNarrower_40 : decode cX10_isNarrower 40 = .ok (.if_icmp .eq 14, 3) := by decide +kernel
theorem dX10_isNarrower_43 : decode cX10_isNarrower 43 = .ok (.aload_n 0, 1) := by decide +kernel
theorem dX10_isNarrower_44 : decode cX10_isNarrower 44 = .ok (.iload 4, 2) := by decide +kernel
theorem dX10_isNarrower_46 : decode cX10_isNarrower 46 = .ok (.iload 5, 2) := by decide +kernel
theorem dX10_isNarrower_48 : decode cX10_isNarrower 48 = .ok (.invokevirtual 121, 3) := by decide +kernel
theorem dX10_isNarrower_51 : decode cX10_isNarrower 51 = .ok (.ifCond .eq 7, 3) := by decide +kernel
theorem dX10_isNarrower_54 : decode cX10_isNarrower 54 = .ok (.iconst 1, 1) := by decide +kernel
theorem dX10_isNarrower_55 : decode cX10_isNarrower 55 = .ok (.goto 4, 3) := by decide +kernel
theorem dX10_isNarrower_58 : decode cX10_isNarrower 58 = .ok (.iconst 0, 1) := by decide +kernel
theorem dX10_isNarrower_59 : decode cX10_isNarrower 59 = .ok (.ireturn, 1) := by decide +kernel
theorem dX10_isNarrower_60 : decode cX10_isNarrower 60 = .ok (.aload_n 0, 1) := by decide +kernel
theorem dX10_isNarrower_61 : decode cX10_isNarrower 61 = .ok (.getfield 63, 3) := by decide +kernel
theorem dX10_isNarrower_64 : decode cX10_isNarrower 64 = .ok (.iconst 2, 1) := by decide +kernel
theorem dX10_isNarrower_65 : decode cX10_isNarrower 65 = .ok (.iload_n 1, 1) := by decide +kernel
theorem dX10_isNarrower_66 : decode cX10_isNarrower 66 = .ok (.imul, 1) := by decide +kernel
theorem dX10_isNarrower_67 : decode cX10_isNarrower 67 = .ok (.iload_n 3, 1) := by decide +kernel
theorem dX10_isNarrower_68 : decode cX10_isNarrower 68 = .ok (.iadd, 1) := by decide +kernel
theorem dX10_isNarrower_69 : decode cX10_isNarrower 69 = .ok (.iaload, 1) := by decide +kernel
theorem dX10_isNarrower_70 : decode cX10_isNarrower 70 = .ok (.aload_n 0, 1) := by decide +kernel
theorem dX10_isNarrower_71 : decode cX10_isNarrower 71 = .ok (.getfield 63, 3) := by decide +kernel
theorem dX10_isNarrower_74 : decode cX10_isNarrower 74 = .ok (.iconst 2, 1) := by decide +kernel
theorem dX10_isNarrower_75 : decode cX10_isNarrower 75 = .ok (.iload_n 2, 1) := by decide +kernel
theorem dX10_isNarrower_76 : decode cX10_isNarrower 76 = .ok (.imul, 1) := by decide +kernel
theorem dX10_isNarrower_77 : decode cX10_isNarrower 77 = .ok (.iload_n 3, 1) := by decide +kernel
theorem dX10_isNarrower_78 : decode cX10_isNarrower 78 = .ok (.iadd, 1) := by decide +kernel
theorem dX10_isNarrower_79 : decode cX10_isNarrower 79 = .ok (.iaload, 1) := by decide +kernel
theorem dX10_isNarrower_80 : decode cX10_isNarrower 80 = .ok (.if_icmp .lt 40, 3) := by decide +kernel
theorem dX10_isNarrower_83 : decode cX10_isNarrower 83 = .ok (.aload_n 0, 1) := by decide +kernel
theorem dX10_isNarrower_84 : decode cX10_isNarrower 84 = .ok (.getfield 66, 3) := by decide +kernel
theorem dX10_isNarrower_87 : decode cX10_isNarrower 87 = .ok (.iconst 2, 1) := by decide +kernel
theorem dX10_isNarrower_88 : decode cX10_isNarrower 88 = .ok (.iload_n 1, 1) := by decide +kernel
theorem dX10_isNarrower_89 : decode cX10_isNarrower 89 = .ok (.imul, 1) := by decide +kernel
theorem dX10_isNarrower_90 : decode cX10_isNarrower 90 = .ok (.iload_n 3, 1) := by decide +kernel
theorem dX10_isNarrower_91 : decode cX10_isNarrower 91 = .ok (.iadd, 1) := by decide +kernel
theorem dX10_isNarrower_92 : decode cX10_isNarrower 92 = .ok (.iaload, 1) := by decide +kernel
theorem dX10_isNarrower_93 : decode cX10_isNarrower 93 = .ok (.aload_n 0, 1) := by decide +kernel
theorem dX10_isNarrower_94 : decode cX10_isNarrower 94 = .ok (.getfield 66, 3) := by decide +kernel
theorem dX10_isNarrower_97 : decode cX10_isNarrower 97 = .ok (.iconst 2, 1) := by decide +kernel
theorem dX10_isNarrower_98 : decode cX10_isNarrower 98 = .ok (.iload_n 2, 1) := by decide +kernel
theorem dX10_isNarrower_99 : decode cX10_isNarrower 99 = .ok (.imul, 1) := by decide +kernel
theorem dX10_isNarrower_100 : decode cX10_isNarrower 100 = .ok (.iload_n 3, 1) := by decide +kernel
theorem dX10_isNarrower_101 : decode cX10_isNarrower 101 = .ok (.iadd, 1) := by decide +kernel
theorem dX10_isNarrower_102 : decode cX10_isNarrower 102 = .ok (.iaload, 1) := by decide +kernel
theorem dX10_isNarrower_103 : decode cX10_isNarrower 103 = .ok (.if_icmp .gt 17, 3) := by decide +kernel
theorem dX10_isNarrower_106 : decode cX10_isNarrower 106 = .ok (.aload_n 0, 1) := by decide +kernel
theorem dX10_isNarrower_107 : decode cX10_isNarrower 107 = .ok (.iload_n 1, 1) := by decide +kernel
theorem dX10_isNarrower_108 : decode cX10_isNarrower 108 = .ok (.iload_n 2, 1) := by decide +kernel
theorem dX10_isNarrower_109 : decode cX10_isNarrower 109 = .ok (.iload_n 3, 1) := by decide +kernel
theorem dX10_isNarrower_110 : decode cX10_isNarrower 110 = .ok (.invokevirtual 148, 3) := by decide +kernel
theorem dX10_isNarrower_113 : decode cX10_isNarrower 113 = .ok (.ifCond .ne 7, 3) := by decide +kernel
theorem dX10_isNarrower_116 : decode cX10_isNarrower 116 = .ok (.iconst 1, 1) := by decide +kernel
theorem dX10_isNarrower_117 : decode cX10_isNarrower 117 = .ok (.goto 4, 3) := by decide +kernel
theorem dX10_isNarrower_120 : decode cX10_isNarrower 120 = .ok (.iconst 0, 1) := by decide +kernel
theorem dX10_isNarrower_121 : decode cX10_isNarrower 121 = .ok (.ireturn, 1) := by decide +kernel
theorem dX10_isMore_0 : decode cX10_isMore 0 = .ok (.aload_n 0, 1) := by decide +kernel
theorem dX10_isMore_1 : decode cX10_isMore 1 = .ok (.getfield 45, 3) := by decide +kernel
theorem dX10_isMore_4 : decode cX10_isMore 4 = .ok (.iload_n 1, 1) := by decide +kernel
theorem dX10_isMore_5 : decode cX10_isMore 5 = .ok (.iaload, 1) := by decide +kernel
theorem dX10_isMore_6 : decode cX10_isMore 6 = .ok (.aload_n 0, 1) := by decide +kernel
theorem dX10_isMore_7 : decode cX10_isMore 7 = .ok (.getfield 45, 3) := by decide +kernel
theorem dX10_isMore_10 : decode cX10_isMore 10 = .ok (.iload_n 2, 1) := by decide +kernel
theorem dX10_isMore_11 : decode cX10_isMore 11 = .ok (.iaload, 1) := by decide +kernel
theorem dX10_isMore_12 : decode cX10_isMore 12 = .ok (.if_icmp .ne 7, 3) := by decide +kernel
theorem dX10_isMore_15 : decode cX10_isMore 15 = .ok (.iconst 1, 1) := by decide +kernel
theorem dX10_isMore_16 : decode cX10_isMore 16 = .ok (.goto 4, 3) := by decide +kernel
theorem dX10_isMore_19 : decode cX10_isMore 19 = .ok (.iconst 0, 1) := by decide +kernel
theorem dX10_isMore_20 : decode cX10_isMore 20 = .ok (.istore_n 3, 1) := by decide +kernel
theorem dX10_isMore_21 : decode cX10_isMore 21 = .ok (.iconst 0, 1) := by decide +kernel
theorem dX10_isMore_22 : decode cX10_isMore 22 = .ok (.istore 4, 2) := by decide +kernel
theorem dX10_isMore_24 : decode cX10_isMore 24 = .ok (.iconst 0, 1) := by decide +kernel
theorem dX10_isMore_25 : decode cX10_isMore 25 = .ok (.istore 5, 2) := by decide +kernel
theorem dX10_isMore_27 : decode cX10_isMore 27 = .ok (.iload 5, 2) := by decide +kernel
theorem dX10_isMore_29 : decode cX10_isMore 29 = .ok (.aload_n 0, 1) := by decide +kernel
theorem dX10_isMore_30 : decode cX10_isMore 30 = .ok (.getfield 29, 3) := by decide +kernel
theorem dX10_isMore_33 : decode cX10_isMore 33 = .ok (.aload_n 0, 1) := by decide +kernel
theorem dX10_isMore_34 : decode cX10_isMore 34 = .ok (.getfield 45, 3) := by decide +kernel
theorem dX10_isMore_37 : decode cX10_isMore 37 = .ok (.iload_n 1, 1) := by decide +kernel
theorem dX10_isMore_38 : decode cX10_isMore 38 = .ok (.iaload, 1) := by decide +kernel
theorem dX10_isMore_39 : decode cX10_isMore 39 = .ok (.iaload, 1) := by decide +kernel
theorem dX10_isMore_40 : decode cX10_isMore 40 = .ok (.if_icmp .ge 62, 3) := by decide +kernel
theorem dX10_isMore_43 : decode cX10_isMore 43 = .ok (.aload_n 0, 1) := by decide +kernel
theorem dX10_isMore_44 : decode cX10_isMore 44 = .ok (.iload_n 1, 1) := by decide +kernel
theorem dX10_isMore_45 : decode cX10_isMore 45 = .ok (.iload_n 2, 1) := by decide +kernel
theorem dX10_isMore_46 : decode cX10_isMore 46 = .ok (.iload 5, 2) := by decide +kernel
theorem dX10_isMore_48 : decode cX10_isMore 48 = .ok (.invokevirtual 152, 3) := by decide +kernel
theorem dX10_isMore_51 : decode cX10_isMore 51 = .ok (.istore 6, 2) := by decide +kernel
theorem dX10_isMore_53 : decode cX10_isMore 53 = .ok (.iload 4, 2) := by decide +kernel
theorem dX10_isMore_55 : decode cX10_isMore 55 = .ok (.ifCond .ne 8, 3) := by decide +kernel
theorem dX10_isMore_58 : decode cX10_isMore 58 = .ok (.iload 6, 2) := by decide +kernel
theorem dX10_isMore_60 : decode cX10_isMore 60 = .ok (.ifCond .eq 7, 3) := by decide +kernel
theorem dX10_isMore_63 : decode cX10_isMore 63 = .ok (.iconst 1, 1) := by decide +kernel
theorem dX10_isMore_64 : decode cX10_isMore 64 = .ok (.goto 4, 3) := by decide +kernel
theorem dX10_isMore_67 : decode cX10_isMore 67 = .ok (.iconst 0, 1) := by decide +kernel
theorem dX10_isMore_68 : decode cX10_isMore 68 = .ok (.istore 4, 2) := by decide +kernel
theorem dX10_isMore_70 : decode cX10_isMore 70 = .ok (.iload_n 3, 1) := by decide +kernel
theorem dX10_isMore_71 : decode cX10_isMore 71 = .ok (.ifCond .eq 23, 3) := by decide +kernel
theorem dX10_isMore_74 : decode cX10_isMore 74 = .ok (.iload 6, 2) := by decide +kernel
theorem dX10_isMore_76 : decode cX10_isMore 76 = .ok (.ifCond .ne 14, 3) := by decide +kernel
theorem dX10_isMore_79 : decode cX10_isMore 79 = .ok (.aload_n 0, 1) := by decide +kernel
theorem dX10_isMore_80 : decode cX10_isMore 80 = .ok (.iload_n 1, 1) := by decide +kernel
theorem dX10_isMore_81 : decode cX10_isMore 81 = .ok (.iload_n 2, 1) := by decide +kernel
theorem dX10_isMore_82 : decode cX10_isMore 82 = .ok (.iload 5, 2) := by decide +kernel
theorem dX10_isMore_84 : decode cX10_isMore 84 = .ok (.invokevirtual 148, 3) := by decide +kernel
theorem dX10_isMore_87 : decode cX10_isMore 87 = .ok (.ifCond .eq 7, 3) := by decide +kernel
theorem dX10_isMore_90 : decode cX10_isMore 90 = .ok (.iconst 1, 1) := by decide +kernel
theorem dX10_isMore_91 : decode cX10_isMore 91 = .ok (.goto 4, 3) := by decide +kernel
theorem dX10_isMore_94 : decode cX10_isMore 94 = .ok (.iconst 0, 1) := by decide +kernel
theorem dX10_isMore_95 : decode cX10_isMore 95 = .ok (.istore_n 3, 1) := by decide +kernel
theorem dX10_isMore_96 : decode cX10_isMore 96 = .ok (.iinc 5 1, 3) := by decide +kernel
theorem dX10_isMore_99 : decode cX10_isMore 99 = .ok (.goto (-72), 3) := by decide +kernel
theorem dX10_isMore_102 : decode cX10_isMore 102 = .ok (.iload_n 3, 1) := by decide +kernel
theorem dX10_isMore_103 : decode cX10_isMore 103 = .ok (.ifCond .eq 12, 3) := by decide +kernel
theorem dX10_isMore_106 : decode cX10_isMore 106 = .ok (.iload 4, 2) := by decide +kernel
theorem dX10_isMore_108 : decode cX10_isMore 108 = .ok (.ifCond .eq 7, 3) := by decide +kernel
theorem dX10_isMore_111 : decode cX10_isMore 111 = .ok (.iconst 1, 1) := by decide +kernel
theorem dX10_isMore_112 : decode cX10_isMore 112 = .ok (.goto 4, 3) := by decide +kernel
theorem dX10_isMore_115 : decode cX10_isMore 115 = .ok (.iconst 0, 1) := by decide +kernel
theorem dX10_isMore_116 : decode cX10_isMore 116 = .ok (.ireturn, 1) := by decide +kernel
theorem dX10_lay_0 : decode cX10_lay 0 = .ok (.aload_n 0, 1) := by decide +kernel
theorem dX10_lay_1 : decode cX10_lay 1 = .ok (.iload_n 1, 1) := by decide +kernel
theorem dX10_lay_2 : decode cX10_lay 2 = .ok (.invokevirtual 139, 3) := by decide +kernel
theorem dX10_lay_5 : decode cX10_lay 5 = .ok (.ifCond .ne 6, 3) := by decide +kernel
theorem dX10_lay_8 : decode cX10_lay 8 = .ok (.bipush (-2), 2) := by decide +kernel
theorem dX10_lay_10 : decode cX10_lay 10 = .ok (.ireturn, 1) := by decide +kernel
theorem dX10_lay_11 : decode cX10_lay 11 = .ok (.aload_n 0, 1) := by decide +kernel
theorem dX10_lay_12 : decode cX10_lay 12 = .ok (.getfield 45, 3) := by decide +kernel
theorem dX10_lay_15 : decode cX10_lay 15 = .ok (.iload_n 1, 1) := by decide +kernel
theorem dX10_lay_16 : decode cX10_lay 16 = .ok (.iaload, 1) := by decide +kernel
theorem dX10_lay_17 : decode cX10_lay 17 = .ok (.istore_n 2, 1) := by decide +kernel
theorem dX10_lay_18 : decode cX10_lay 18 = .ok (.aload_n 0, 1) := by decide +kernel
theorem dX10_lay_19 : decode cX10_lay 19 = .ok (.getfield 57, 3) := by decide +kernel
theorem dX10_lay_22 : decode cX10_lay 22 = .ok (.iload_n 1, 1) := by decide +kernel
theorem dX10_lay_23 : decode cX10_lay 23 = .ok (.iaload, 1) := by decide +kernel
theorem dX10_lay_24 : decode cX10_lay 24 = .ok (.ifCond .ne 12, 3) := by decide +kernel
theorem dX10_lay_27 : decode cX10_lay 27 = .ok (.aload_n 0, 1) := by decide +kernel
theorem dX10_lay_28 : decode cX10_lay 28 = .ok (.getfield 32, 3) := by decide +kernel
theorem dX10_lay_31 : decode cX10_lay 31 = .ok (.iload_n 2, 1) := by decide +kernel
theorem dX10_lay_32 : decode cX10_lay 32 = .ok (.baload, 1) := by decide +kernel
theorem dX10_lay_33 : decode cX10_lay 33 = .ok (.ifCond .eq 6, 3) := by decide +kernel
theorem dX10_lay_36 : decode cX10_lay 36 = .ok (.bipush (-3), 2) := by decide +kernel
theorem dX10_lay_38 : decode cX10_lay 38 = .ok (.ireturn, 1) := by decide +kernel
theorem dX10_lay_39 : decode cX10_lay 39 = .ok (.iconst 0, 1) := by decide +kernel
theorem dX10_lay_40 : decode cX10_lay 40 = .ok (.istore_n 3, 1) := by decide +kernel
theorem dX10_lay_41 : decode cX10_lay 41 = .ok (.iload_n 3, 1) := by decide +kernel
theorem dX10_lay_42 : decode cX10_lay 42 = .ok (.aload_n 0, 1) := by decide +kernel
theorem dX10_lay_43 : decode cX10_lay 43 = .ok (.getfield 131, 3) := by decide +kernel
theorem dX10_lay_46 : decode cX10_lay 46 = .ok (.if_icmp .ge 91, 3) := by decide +kernel
theorem dX10_lay_49 : decode cX10_lay 49 = .ok (.aload_n 0, 1) := by decide +kernel
theorem dX10_lay_50 : decode cX10_lay 50 = .ok (.iload_n 3, 1) := by decide +kernel
theorem dX10_lay_51 : decode cX10_lay 51 = .ok (.iload_n 2, 1) := by decide +kernel
theorem dX10_lay_52 : decode cX10_lay 52 = .ok (.invokevirtual 145, 3) := by decide +kernel
theorem dX10_lay_55 : decode cX10_lay 55 = .ok (.ifCond .eq 22, 3) := by decide +kernel
theorem dX10_lay_58 : decode cX10_lay 58 = .ok (.aload_n 0, 1) := by decide +kernel
theorem dX10_lay_59 : decode cX10_lay 59 = .ok (.getfield 54, 3) := by decide +kernel
theorem dX10_lay_62 : decode cX10_lay 62 = .ok (.iload_n 3, 1) := by decide +kernel
theorem dX10_lay_63 : decode cX10_lay 63 = .ok (.baload, 1) := by decide +kernel
theorem dX10_lay_64 : decode cX10_lay 64 = .ok (.aload_n 0, 1) := by decide +kernel
theorem dX10_lay_65 : decode cX10_lay 65 = .ok (.getfield 54, 3) := by decide +kernel
theorem dX10_lay_68 : decode cX10_lay 68 = .ok (.iload_n 1, 1) := by decide +kernel
theorem dX10_lay_69 : decode cX10_lay 69 = .ok (.baload, 1) := by decide +kernel
theorem dX10_lay_70 : decode cX10_lay 70 = .ok (.if_icmp .ne 7, 3) := by decide +kernel
theorem dX10_lay_73 : decode cX10_lay 73 = .ok (.iconst 1, 1) := by decide +kernel
theorem dX10_lay_74 : decode cX10_lay 74 = .ok (.goto 4, 3) := by decide +kernel
theorem dX10_lay_77 : decode cX10_lay 77 = .ok (.iconst 0, 1) := by decide +kernel
theorem dX10_lay_78 : decode cX10_lay 78 = .ok (.istore 4, 2) := by decide +kernel
theorem dX10_lay_80 : decode cX10_lay 80 = .ok (.iconst 0, 1) := by decide +kernel
theorem dX10_lay_81 : decode cX10_lay 81 = .ok (.istore 5, 2) := by decide +kernel
theorem dX10_lay_83 : decode cX10_lay 83 = .ok (.iload 5, 2) := by decide +kernel
theorem dX10_lay_85 : decode cX10_lay 85 = .ok (.aload_n 0, 1) := by decide +kernel
theorem dX10_lay_86 : decode cX10_lay 86 = .ok (.getfield 29, 3) := by decide +kernel
theorem dX10_lay_89 : decode cX10_lay 89 = .ok (.iload_n 2, 1) := by decide +kernel
theorem dX10_lay_90 : decode cX10_lay 90 = .ok (.iaload, 1) := by decide +kernel
theorem dX10_lay_91 : decode cX10_lay 91 = .ok (.if_icmp .ge 32, 3) := by decide +kernel
theorem dX10_lay_94 : decode cX10_lay 94 = .ok (.iload 4, 2) := by decide +kernel
theorem dX10_lay_96 : decode cX10_lay 96 = .ok (.ifCond .eq 18, 3) := by decide +kernel
theorem dX10_lay_99 : decode cX10_lay 99 = .ok (.aload_n 0, 1) := by decide +kernel
theorem dX10_lay_100 : decode cX10_lay 100 = .ok (.iload_n 1, 1) := by decide +kernel
theorem dX10_lay_101 : decode cX10_lay 101 = .ok (.iload_n 3, 1) := by decide +kernel
theorem dX10_lay_102 : decode cX10_lay 102 = .ok (.iload 5, 2) := by decide +kernel
theorem dX10_lay_104 : decode cX10_lay 104 = .ok (.invokevirtual 148, 3) := by decide +kernel
theorem dX10_lay_107 : decode cX10_lay 107 = .ok (.ifCond .eq 7, 3) := by decide +kernel
theorem dX10_lay_110 : decode cX10_lay 110 = .ok (.iconst 1, 1) := by decide +kernel
theorem dX10_lay_111 : decode cX10_lay 111 = .ok (.goto 4, 3) := by decide +kernel
theorem dX10_lay_114 : decode cX10_lay 114 = .ok (.iconst 0, 1) := by decide +kernel
theorem dX10_lay_115 : decode cX10_lay 115 = .ok (.istore 4, 2) := by decide +kernel
theorem dX10_lay_117 : decode cX10_lay 117 = .ok (.iinc 5 1, 3) := by decide +kernel
theorem dX10_lay_120 : decode cX10_lay 120 = .ok (.goto (-37), 3) := by decide +kernel
theorem dX10_lay_123 : decode cX10_lay 123 = .ok (.iload 4, 2) := by decide +kernel
theorem dX10_lay_125 : decode cX10_lay 125 = .ok (.ifCond .eq 6, 3) := by decide +kernel
theorem dX10_lay_128 : decode cX10_lay 128 = .ok (.bipush (-5), 2) := by decide +kernel
theorem dX10_lay_130 : decode cX10_lay 130 = .ok (.ireturn, 1) := by decide +kernel
theorem dX10_lay_131 : decode cX10_lay 131 = .ok (.iinc 3 1, 3) := by decide +kernel
theorem dX10_lay_134 : decode cX10_lay 134 = .ok (.goto (-93), 3) := by decide +kernel
theorem dX10_lay_137 : decode cX10_lay 137 = .ok (.aload_n 0, 1) := by decide +kernel
theorem dX10_lay_138 : decode cX10_lay 138 = .ok (.iload_n 2, 1) := by decide +kernel
theorem dX10_lay_139 : decode cX10_lay 139 = .ok (.invokevirtual 155, 3) := by decide +kernel
theorem dX10_lay_142 : decode cX10_lay 142 = .ok (.bipush 8, 2) := by decide +kernel
theorem dX10_lay_144 : decode cX10_lay 144 = .ok (.if_icmp .ne 6, 3) := by decide +kernel
theorem dX10_lay_147 : decode cX10_lay 147 = .ok (.bipush (-4), 2) := by decide +kernel
theorem dX10_lay_149 : decode cX10_lay 149 = .ok (.ireturn, 1) := by decide +kernel
theorem dX10_lay_150 : decode cX10_lay 150 = .ok (.aload_n 0, 1) := by decide +kernel
theorem dX10_lay_151 : decode cX10_lay 151 = .ok (.getfield 57, 3) := by decide +kernel
theorem dX10_lay_154 : decode cX10_lay 154 = .ok (.iload_n 1, 1) := by decide +kernel
theorem dX10_lay_155 : decode cX10_lay 155 = .ok (.iconst 1, 1) := by decide +kernel
theorem dX10_lay_156 : decode cX10_lay 156 = .ok (.iastore, 1) := by decide +kernel
theorem dX10_lay_157 : decode cX10_lay 157 = .ok (.aload_n 0, 1) := by decide +kernel
theorem dX10_lay_158 : decode cX10_lay 158 = .ok (.getfield 42, 3) := by decide +kernel
theorem dX10_lay_161 : decode cX10_lay 161 = .ok (.iload_n 2, 1) := by decide +kernel
theorem dX10_lay_162 : decode cX10_lay 162 = .ok (.iconst 0, 1) := by decide +kernel
theorem dX10_lay_163 : decode cX10_lay 163 = .ok (.iastore, 1) := by decide +kernel
theorem dX10_lay_164 : decode cX10_lay 164 = .ok (.iconst 1, 1) := by decide +kernel
theorem dX10_lay_165 : decode cX10_lay 165 = .ok (.ireturn, 1) := by decide +kernel
theorem dX10_lift_0 : decode cX10_lift 0 = .ok (.aload_n 0, 1) := by decide +kernel
theorem dX10_lift_1 : decode cX10_lift 1 = .ok (.iload_n 1, 1) := by decide +kernel
theorem dX10_lift_2 : decode cX10_lift 2 = .ok (.invokevirtual 139, 3) := by decide +kernel
theorem dX10_lift_5 : decode cX10_lift 5 = .ok (.ifCond .ne 6, 3) := by decide +kernel
theorem dX10_lift_8 : decode cX10_lift 8 = .ok (.bipush (-2), 2) := by decide +kernel
theorem dX10_lift_10 : decode cX10_lift 10 = .ok (.ireturn, 1) := by decide +kernel
theorem dX10_lift_11 : decode cX10_lift 11 = .ok (.aload_n 0, 1) := by decide +kernel
theorem dX10_lift_12 : decode cX10_lift 12 = .ok (.getfield 57, 3) := by decide +kernel
theorem dX10_lift_15 : decode cX10_lift 15 = .ok (.iload_n 1, 1) := by decide +kernel
theorem dX10_lift_16 : decode cX10_lift 16 = .ok (.iaload, 1) := by decide +kernel
theorem dX10_lift_17 : decode cX10_lift 17 = .ok (.iconst 1, 1) := by decide +kernel
theorem dX10_lift_18 : decode cX10_lift 18 = .ok (.if_icmp .ne 17, 3) := by decide +kernel
theorem dX10_lift_21 : decode cX10_lift 21 = .ok (.aload_n 0, 1) := by decide +kernel
theorem dX10_lift_22 : decode cX10_lift 22 = .ok (.getfield 32, 3) := by decide +kernel
theorem dX10_lift_25 : decode cX10_lift 25 = .ok (.aload_n 0, 1) := by decide +kernel
theorem dX10_lift_26 : decode cX10_lift 26 = .ok (.getfield 45, 3) := by decide +kernel
theorem dX10_lift_29 : decode cX10_lift 29 = .ok (.iload_n 1, 1) := by decide +kernel
theorem dX10_lift_30 : decode cX10_lift 30 = .ok (.iaload, 1) := by decide +kernel
theorem dX10_lift_31 : decode cX10_lift 31 = .ok (.baload, 1) := by decide +kernel
theorem dX10_lift_32 : decode cX10_lift 32 = .ok (.ifCond .eq 6, 3) := by decide +kernel
theorem dX10_lift_35 : decode cX10_lift 35 = .ok (.bipush (-3), 2) := by decide +kernel
theorem dX10_lift_37 : decode cX10_lift 37 = .ok (.ireturn, 1) := by decide +kernel
theorem dX10_lift_38 : decode cX10_lift 38 = .ok (.aload_n 0, 1) := by decide +kernel
theorem dX10_lift_39 : decode cX10_lift 39 = .ok (.getfield 57, 3) := by decide +kernel
theorem dX10_lift_42 : decode cX10_lift 42 = .ok (.iload_n 1, 1) := by decide +kernel
theorem dX10_lift_43 : decode cX10_lift 43 = .ok (.iconst 2, 1) := by decide +kernel
theorem dX10_lift_44 : decode cX10_lift 44 = .ok (.iastore, 1) := by decide +kernel
theorem dX10_lift_45 : decode cX10_lift 45 = .ok (.aload_n 0, 1) := by decide +kernel
theorem dX10_lift_46 : decode cX10_lift 46 = .ok (.getfield 42, 3) := by decide +kernel
theorem dX10_lift_49 : decode cX10_lift 49 = .ok (.aload_n 0, 1) := by decide +kernel
theorem dX10_lift_50 : decode cX10_lift 50 = .ok (.getfield 45, 3) := by decide +kernel
theorem dX10_lift_53 : decode cX10_lift 53 = .ok (.iload_n 1, 1) := by decide +kernel
theorem dX10_lift_54 : decode cX10_lift 54 = .ok (.iaload, 1) := by decide +kernel
theorem dX10_lift_55 : decode cX10_lift 55 = .ok (.iconst 0, 1) := by decide +kernel
theorem dX10_lift_56 : decode cX10_lift 56 = .ok (.iastore, 1) := by decide +kernel
theorem dX10_lift_57 : decode cX10_lift 57 = .ok (.iconst 1, 1) := by decide +kernel
theorem dX10_lift_58 : decode cX10_lift 58 = .ok (.ireturn, 1) := by decide +kernel
theorem dX10_freeze_0 : decode cX10_freeze 0 = .ok (.aload_n 0, 1) := by decide +kernel
theorem dX10_freeze_1 : decode cX10_freeze 1 = .ok (.iload_n 1, 1) := by decide +kernel
theorem dX10_freeze_2 : decode cX10_freeze 2 = .ok (.invokevirtual 134, 3) := by decide +kernel
theorem dX10_freeze_5 : decode cX10_freeze 5 = .ok (.ifCond .ne 6, 3) := by decide +kernel
theorem dX10_freeze_8 : decode cX10_freeze 8 = .ok (.bipush (-2), 2) := by decide +kernel
theorem dX10_freeze_10 : decode cX10_freeze 10 = .ok (.ireturn, 1) := by decide +kernel
theorem dX10_freeze_11 : decode cX10_freeze 11 = .ok (.aload_n 0, 1) := by decide +kernel
theorem dX10_freeze_12 : decode cX10_freeze 12 = .ok (.getfield 32, 3) := by decide +kernel
theorem dX10_freeze_15 : decode cX10_freeze 15 = .ok (.iload_n 1, 1) := by decide +kernel
