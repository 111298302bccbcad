theorem dX10_isMore_94 : decode cX10_isMore 94 = .ok (.iconst 0, 1) := by decide +kernel
theorem dX10_isMore_95 : decode cX10_isMore 95 = .ok (.istore_n 3, 1) := by decide +kernel
theorem dX10_isMore_96 : decode cX10_isMore 96 = .ok (.iinc 5 1, 3) := by decide +kernel
theorem dX10_isMore_99 : decode cX10_isMore 99 = .ok (.goto (-72), 3) := by decide +kernel
theorem dX10_isMore_102 : decode cX10_isMore 102 = .ok (.iload_n 3, 1) := by decide +kernel
theorem dX10_isMore_103 : decode cX10_isMore 103 = .ok (.ifCond .eq 12, 3) := by decide +kernel
theorem dX10_isMore_106 : decode cX10_isMore 106 = .ok (.iload 4, 2) := by decide +kernel
theorem dX10_isMore_108 : decode cX10_isMore 108 = .ok (.ifCond .eq 7, 3) := by decide +kernel
theorem dX10_isMore_111 : decode cX10_isMore 111 = .ok (.iconst 1, 1) := by decide +kernel
theorem dX10_isMore_112 : decode cX10_isMore 112 = .ok (.goto 4, 3) := by decide +kernel
theorem dX10_isMore_115 : decode cX10_isMore 115 = .ok (.iconst 0, 1) := by decide +kernel
theorem dX10_isMore_116 : decode cX10_isMore 116 = .ok (.ireturn, 1) := by decide +kernel
set_option maxRecDepth 20000 in
theorem ggX10_lay_X10_isHandler : GoodIn wsX10_lay wsX10_isHandler := goodIn_r _ [12, 4, 28, 29, 30, 31, 32, 33, 34, 35, 36, 37, 38, 39, 40, 41, 42, 43, 44, 45, 46, 47, 48, 49, 50, 51, 52, 53, 54, 55, 56, 57, 58, 59, 60, 61, 62, 63, 64, 65, 66] (by decide +kernel) (by decide +kernel)
set_option maxRecDepth 20000 in
theorem gX10_lay_X10_isHandler : GoodIn wsX10_lay (wsV RX10 139 RX10 yX10_isHandler wsX10_isHandler) := goodIn_app (goodIn_of _ (by decide +kernel)) ggX10_lay_X10_isHandler
set_option maxRecDepth 20000 in
theorem ggX10_lay_X10_isLaid : GoodIn wsX10_lay wsX10_isLaid := goodIn_r _ [16, 1, 2, 28, 29, 30, 31, 32, 33, 34, 35, 36, 37, 38, 39, 40, 41, 42, 43, 44, 45, 46, 47, 48, 49, 50, 51, 52, 53, 54, 55, 56, 57, 58, 59, 60, 61, 62, 63, 64, 65, 66] (by decide +kernel) (by decide +kernel)
set_option maxRecDepth 20000 in
theorem gX10_lay_X10_isLaid : GoodIn wsX10_lay (wsV RX10 145 RX10 yX10_isLaid wsX10_isLaid) := goodIn_app (goodIn_of _ (by decide +kernel)) ggX10_lay_X10_isLaid
set_option maxRecDepth 20000 in
theorem ggX10_lay_X10_areSame : GoodIn wsX10_lay wsX10_areSame := goodIn_r _ [20, 21, 22, 23, 28, 29, 30, 31, 32, 33, 34, 35, 36, 37, 38, 39, 40, 41, 42, 43, 44, 45, 46, 47, 48, 49, 50, 51, 52, 53, 54, 55, 56, 57, 58, 59, 60, 61, 62, 63, 64, 65, 66] (by decide +kernel) (by decide +kernel)
set_option maxRecDepth 20000 in
theorem gX10_lay_X10_areSame : GoodIn wsX10_lay (wsV RX10 148 RX10 yX10_areSame wsX10_areSame) := goodIn_app (goodIn_of _ (by decide +kernel)) ggX10_lay_X10_areSame
set_option maxRecDepth 20000 in
theorem ggX10_lay_X10_laid : GoodIn wsX10_lay wsX10_laid := goodIn_r _ [27, 4, 13, 14, 15, 11, 16, 1, 2, 28, 29, 30, 31, 32, 33, 34, 35, 36, 37, 38, 39, 40, 41, 42, 43, 44, 45, 46, 47, 48, 49, 50, 51, 52, 53, 54, 55, 56, 57, 58, 59, 60, 61, 62, 63, 64, 65, 66] (by decide +kernel) (by decide +kernel)
set_option maxRecDepth 20000 in
theorem gX10_lay_X10_laid : GoodIn wsX10_lay (wsV RX10 155 RX10 yX10_laid wsX10_laid) := goodIn_app (goodIn_of _ (by decide +kernel)) ggX10_lay_X10_laid
theorem dX10_lay_0 : decode cX10_lay 0 = .ok (.aload_n 0, 1) := by decide +kernel
theorem dX10_lay_1 : decode cX10_lay 1 = .ok (.iload_n 1, 1) := by decide +kernel
theorem dX10_lay_2 : decode cX10_lay 2 = .ok (.invokevirtual 139, 3) := by decide +kernel
theorem dX10_lay_5 : decode cX10_lay 5 = .ok (.ifCond .ne 6, 3) := by decide +kernel
theorem dX10_lay_8 : decode cX10_lay 8 = .ok (.bipush (-2), 2) := by decide +kernel
theorem dX10_lay_10 : decode cX10_lay 10 = .ok (.ireturn, 1) := by decide +kernel
theorem dX10_lay_11 : decode cX10_lay 11 = .ok (.aload_n 0, 1) := by decide +kernel
theorem dX10_lay_12 : decode cX10_lay 12 = .ok (.getfield 45, 3) := by decide +kernel
theorem dX10_lay_15 : decode cX10_lay 15 = .ok (.iload_n 1, 1) := by decide +kernel
theorem dX10_lay_16 : decode cX10_lay 16 = .ok (.iaload, 1) := by decide +kernel
theorem dX10_lay_17 : decode cX10_lay 17 = .ok (.istore_n 2, 1) := by decide +kernel
theorem dX10_lay_18 : decode cX10_lay 18 = .ok (.aload_n 0, 1) := by decide +kernel
theorem dX10_lay_19 : decode cX10_lay 19 = .ok (.getfield 57, 3) := by decide +kernel
theorem dX10_lay_22 : decode cX10_lay 22 = .ok (.iload_n 1, 1) := by decide +kernel
theorem dX10_lay_23 : decode cX10_lay 23 = .ok (.iaload, 1) := by decide +kernel
theorem dX10_lay_24 : decode cX10_lay 24 = .ok (.ifCond .ne 12, 3) := by decide +kernel
theorem dX10_lay_27 : decode cX10_lay 27 = .ok (.aload_n 0, 1) := by decide +kernel
theorem dX10_lay_28 : decode cX10_lay 28 = .ok (.getfield 32, 3) := by decide +kernel
theorem dX10_lay_31 : decode cX10_lay 31 = .ok (.iload_n 2, 1) := by decide +kernel
theorem dX10_lay_32 : decode cX10_lay 32 = .ok (.baload, 1) := by decide +kernel
theorem dX10_lay_33 : decode cX10_lay 33 = .ok (.ifCond .eq 6, 3) := by decide +kernel
theorem dX10_lay_36 : decode cX10_lay 36 = .ok (.bipush (-3), 2) := by decide +kernel
theorem dX10_lay_38 : decode cX10_lay 38 = .ok (.ireturn, 1) := by decide +kernel
theorem dX10_lay_39 : decode cX10_lay 39 = .ok (.iconst 0, 1) := by decide +kernel
theorem dX10_lay_40 : decode cX10_lay 40 = .ok (.istore_n 3, 1) := by decide +kernel
theorem dX10_lay_41 : decode cX10_lay 41 = .ok (.iload_n 3, 1) := by decide +kernel
theorem dX10_lay_42 : decode cX10_lay 42 = .ok (.aload_n 0, 1) := by decide +kernel
theorem dX10_lay_43 : decode cX10_lay 43 = .ok (.getfield 131, 3) := by decide +kernel
theorem dX10_lay_46 : decode cX10_lay 46 = .ok (.if_icmp .ge 91, 3) := by decide +kernel
theorem dX10_lay_49 : decode cX10_lay 49 = .ok (.aload_n 0, 1) := by decide +kernel
theorem dX10_lay_50 : decode cX10_lay 50 = .ok (.iload_n 3, 1) := by decide +kernel
theorem dX10_lay_51 : decode cX10_lay 51 = .ok (.iload_n 2, 1) := by decide +kernel
theorem dX10_lay_52 : decode cX10_lay 52 = .ok (.invokevirtual 145, 3) := by decide +kernel
theorem dX10_lay_55 : decode cX10_lay 55 = .ok (.ifCond .eq 22, 3) := by decide +kernel
theorem dX10_lay_58 : decode cX10_lay 58 = .ok (.aload_n 0, 1) := by decide +kernel
theorem dX10_lay_59 : decode cX10_lay 59 = .ok (.getfield 54, 3) := by decide +kernel
theorem dX10_lay_62 : decode cX10_lay 62 = .ok (.iload_n 3, 1) := by decide +kernel
theorem dX10_lay_63 : decode cX10_lay 63 = .ok (.baload, 1) := by decide +kernel
theorem dX10_lay_64 : decode cX10_lay 64 = .ok (.aload_n 0, 1) := by decide +kernel
theorem dX10_lay_65 : decode cX10_lay 65 = .ok (.getfield 54, 3) := by decide +kernel
theorem dX10_lay_68 : decode cX10_lay 68 = .ok (.iload_n 1, 1) := by decide +kernel
theorem dX10_lay_69 : decode cX10_lay 69 = .ok (.baload, 1) := by decide +kernel
theorem dX10_lay_70 : decode cX10_lay 70 = .ok (.if_icmp .ne 7, 3) := by decide +kernel
theorem dX10_lay_73 : decode cX10_lay 73 = .ok (.iconst 1, 1) := by decide +kernel
theorem dX10_lay_74 : decode cX10_lay 74 = .ok (.goto 4, 3) := by decide +kernel
theorem dX10_lay_77 : decode cX10_lay 77 = .ok (.iconst 0, 1) := by decide +kernel
theorem dX10_lay_78 : decode cX10_lay 78 = .ok (.istore 4, 2) := by decide +kernel
theorem dX10_lay_80 : decode cX10_lay 80 = .ok (.iconst 0, 1) := by decide +kernel
theorem dX10_lay_81 : decode cX10_lay 81 = .ok (.istore 5, 2) := by decide +kernel
theorem dX10_lay_83 : decode cX10_lay 83 = .ok (.iload 5, 2) := by decide +kernel
theorem dX10_lay_85 : decode cX10_lay 85 = .ok (.aload_n 0, 1) := by decide +kernel
theorem dX10_lay_86 : decode cX10_lay 86 = .ok (.getfield 29, 3) := by decide +kernel
theorem dX10_lay_89 : decode cX10_lay 89 = .ok (.iload_n 2, 1) := by decide +kernel
theorem dX10_lay_90 : decode cX10_lay 90 = .ok (.iaload, 1) := by decide +kernel
theorem dX10_lay_91 : decode cX10_lay 91 = .ok (.if_icmp .ge 32, 3) := by decide +kernel
theorem dX10_lay_94 : decode cX10_lay 94 = .ok (.iload 4, 2) := by decide +kernel
theorem dX10_lay_96 : decode cX10_lay 96 = .ok (.ifCond .eq 18, 3) := by decide +kernel
theorem dX10_lay_99 : decode cX10_lay 99 = .ok (.aload_n 0, 1) := by decide +kernel
theorem dX10_lay_100 : decode cX10_lay 100 = .ok (.iload_n 1, 1) := by decide +kernel
theorem dX10_lay_101 : decode cX10_lay 101 = .ok (.iload_n 3, 1) := by decide +kernel
theorem dX10_lay_102 : decode cX10_lay 102 = .ok (.iload 5, 2) := by decide +kernel
theorem dX10_lay_104 : decode cX10_lay 104 = .ok (.invokevirtual 148, 3) := by decide +kernel
theorem dX10_lay_107 : decode cX10_lay 107 = .ok (.ifCond .eq 7, 3) := by decide +kernel
theorem dX10_lay_110 : decode cX10_lay 110 = .ok (.iconst 1, 1) := by decide +kernel
theorem dX10_lay_111 : decode cX10_lay 111 = .ok (.goto 4, 3) := by decide +kernel
theorem dX10_lay_114 : decode cX10_lay 114 = .ok (.iconst 0, 1) := by decide +kernel
theorem dX10_lay_115 : decode cX10_lay 115 = .ok (.istore 4, 2) := by decide +kernel
theorem dX10_lay_117 : decode cX10_lay 117 = .ok (.iinc 5 1, 3) := by decide +kernel
theorem dX10_lay_120 : decode cX10_lay 120 = .ok (.goto (-37), 3) := by decide +kernel
theorem dX10_lay_123 : decode cX10_lay 123 = .ok (.iload 4, 2) := by decide +kernel
theorem dX10_lay_125 : decode cX10_lay 125 = .ok (.ifCond .eq 6, 3) := by decide +kernel
theorem dX10_lay_128 : decode cX10_lay 128 = .ok (.bipush (-5), 2) := by decide +kernel
theorem dX10_lay_130 : decode cX10_lay 130 = .ok (.ireturn, 1) := by decide +kernel
theorem dX10_lay_131 : decode cX10_lay 131 = .ok (.iinc 3 1, 3) := by decide +kernel
theorem dX10_lay_134 : decode cX10_lay 134 = .ok (.goto (-93), 3) := by decide +kernel
theorem dX10_lay_137 : decode cX10_lay 137 = .ok (.aload_n 0, 1) := by decide +kernel
theorem dX10_lay_138 : decode cX10_lay 138 = .ok (.iload_n 2, 1) := by decide +kernel
theorem dX10_lay_139 : decode cX10_lay 139 = .ok (.invokevirtual 155, 3) := by decide +kernel
theorem dX10_lay_142 : decode cX10_lay 142 = .ok (.bipush 8, 2) := by decide +kernel
theorem dX10_lay_144 : decode cX10_lay 144 = .ok (.if_icmp .ne 6, 3) := by decide +kernel
theorem dX10_lay_147 : decode cX10_lay 147 = .ok (.bipush (-4), 2) := by decide +kernel
theorem dX10_lay_149 : decode cX10_lay 149 = .ok (.ireturn, 1) := by decide +kernel
theorem dX10_lay_150 : decode cX10_lay 150 = .ok (.aload_n 0, 1) := by decide +kernel
theorem dX10_lay_151 : decode cX10_lay 151 = .ok (.getfield 57, 3) := by decide +kernel
theorem dX10_lay_154 : decode cX10_lay 154 = .ok (.iload_n 1, 1) := by decide +kernel
theorem dX10_lay_155 : decode cX10_lay 155 = .ok (.iconst 1, 1) := by decide +kernel
theorem dX10_lay_156 : decode cX10_lay 156 = .ok (.iastore, 1) := by decide +kernel
theorem dX10_lay_157 : decode cX10_lay 157 = .ok (.aload_n 0, 1) := by decide +kernel
theorem dX10_lay_158 : decode cX10_lay 158 = .ok (.getfield 42, 3) := by decide +kernel
theorem dX10_lay_161 : decode cX10_lay 161 = .ok (.iload_n 2, 1) := by decide +kernel
theorem dX10_lay_162 : decode cX10_lay 162 = .ok (.iconst 0, 1) := by decide +kernel
theorem dX10_lay_163 : decode cX10_lay 163 = .ok (.iastore, 1) := by decide +kernel
theorem dX10_lay_164 : decode cX10_lay 164 = .ok (.iconst 1, 1) := by decide +kernel
theorem dX10_lay_165 : decode cX10_lay 165 = .ok (.ireturn, 1) := by decide +kernel
set_option maxRecDepth 20000 in
theorem ggX10_lift_X10_isHandler : GoodIn wsX10_lift wsX10_isHandler := goodIn_r _ [9, 10, 11, 12, 13, 14, 15, 16, 17, 18, 19, 20, 21, 22, 23, 24, 25, 26, 27, 28, 29, 30, 31, 32, 33, 34, 35, 36, 37, 38, 39, 40, 41, 42, 43, 44, 45, 46, 47, 48, 49] (by decide +kernel) (by decide +kernel)
set_option maxRecDepth 20000 in
theorem gX10_lift_X10_isHandler : GoodIn wsX10_lift (wsV RX10 139 RX10 yX10_isHandler wsX10_isHandler) := goodIn_app (goodIn_of _ (by decide +kernel)) ggX10_lift_X10_isHandler
theorem dX10_lift_0 : decode cX10_lift 0 = .ok (.aload_n 0, 1) := by decide +kernel
theorem dX10_lift_1 : decode cX10_lift 1 = .ok (.iload_n 1, 1) := by decide +kernel
theorem dX10_lift_2 : decode cX10_lift 2 = .ok (.invokevirtual 139, 3) := by decide +kernel
theorem dX10_lift_5 : decode cX10_lift 5 = .ok (.ifCond .ne 6, 3) := by decide +kernel
theorem dX10_lift_8 : decode cX10_lift 8 = .ok (.bipush (-2), 2) := by decide +kernel
theorem dX10_lift_10 : decode cX10_lift 10 = .ok (.ireturn, 1) := by decide +kernel
theorem dX10_lift_11 : decode cX10_lift 11 = .ok (.aload_n 0, 1) := by decide +kernel
theorem dX10_lift_12 : decode cX10_lift 12 = .ok (.getfield 57, 3) := by decide +kernel
theorem dX10_lift_15 : decode cX10_lift 15 = .ok (.iload_n 1, 1) := by decide +kernel
theorem dX10_lift_16 : decode cX10_lift 16 = .ok (.iaload, 1) := by decide +kernel
theorem dX10_lift_17 : decode cX10_lift 17 = .ok (.iconst 1, 1) := by decide +kernel
theorem dX10_lift_18 : decode cX10_lift 18 = .ok (.if_icmp .ne 17, 3) := by decide +kernel
theorem dX10_lift_21 : decode cX10_lift 21 = .ok (.aload_n 0, 1) := by decide +kernel
theorem dX10_lift_22 : decode cX10_lift 22 = .ok (.getfield 32, 3) := by decide +kernel
theorem dX10_lift_25 : decode cX10_lift 25 = .ok (.aload_n 0, 1) := by decide +kernel
theorem dX10_lift_26 : decode cX10_lift 26 = .ok (.getfield 45, 3) := by decide +kernel
theorem dX10_lift_29 : decode cX10_lift 29 = .ok (.iload_n 1, 1) := by decide +kernel
theorem dX10_lift_30 : decode cX10_lift 30 = .ok (.iaload, 1) := by decide +kernel
theorem dX10_lift_31 : decode cX10_lift 31 = .ok (.baload, 1) := by decide +kernel
theorem dX10_lift_32 : decode cX10_lift 32 = .ok (.ifCond .eq 6, 3) := by decide +kernel
theorem dX10_lift_35 : decode cX10_lift 35 = .ok (.bipush (-3), 2) := by decide +kernel
theorem dX10_lift_37 : decode cX10_lift 37 = .ok (.ireturn, 1) := by decide +kernel
theorem dX10_lift_38 : decode cX10_lift 38 = .ok (.aload_n 0, 1) := by decide +kernel
theorem dX10_lift_39 : decode cX10_lift 39 = .ok (.getfield 57, 3) := by decide +kernel
theorem dX10_lift_42 : decode cX10_lift 42 = .ok (.iload_n 1, 1) := by decide +kernel
theorem dX10_lift_43 : decode cX10_lift 43 = .ok (.iconst 2, 1) := by decide +kernel
theorem dX10_lift_44 : decode cX10_lift 44 = .ok (.iastore, 1) := by decide +kernel
theorem dX10_lift_45 : decode cX10_lift 45 = .ok (.aload_n 0, 1) := by decide +kernel
theorem dX10_lift_46 : decode cX10_lift 46 = .ok (.getfield 42, 3) := by decide +kernel
theorem dX10_lift_49 : decode cX10_lift 49 = .ok (.aload_n 0, 1) := by decide +kernel
theorem dX10_lift_50 : decode cX10_lift 50 = .ok (.getfield 45, 3) := by decide +kernel
theorem dX10_lift_53 : decode cX10_lift 53 = .ok (.iload_n 1, 1) := by decide +kernel
theorem dX10_lift_54 : decode cX10_lift 54 = .ok (.iaload, 1) := by decide +kernel
theorem dX10_lift_55 : decode cX10_lift 55 = .ok (.iconst 0, 1) := by decide +kernel
theorem dX10_lift_56 : decode cX10_lift 56 = .ok (.iastore, 1) := by decide +kernel
theorem dX10_lift_57 : decode cX10_lift 57 = .ok (.iconst 1, 1) := by decide +kernel
theorem dX10_lift_58 : decode cX10_lift 58 = .ok (.ireturn, 1) := by decide +kernel
set_option maxRecDepth 20000 in
theorem ggX10_freeze_X10_isFunction : GoodIn wsX10_freeze wsX10_isFunction := goodIn_r _ [6, 7, 8, 9, 10, 11, 12, 13, 14, 15, 16, 17, 18, 19, 20, 21, 22, 23, 24, 25, 26, 27, 28, 29, 30, 31, 32, 33, 34, 35, 36, 37, 38, 39, 40, 41, 42, 43, 44, 45, 46] (by decide +kernel) (by decide +kernel)
set_option maxRecDepth 20000 in
theorem gX10_freeze_X10_isFunction : GoodIn wsX10_freeze (wsV RX10 134 RX10 yX10_isFunction wsX10_isFunction) := goodIn_app (goodIn_of _ (by decide +kernel)) ggX10_freeze_X10_isFunction
theorem dX10_freeze_0 : decode cX10_freeze 0 = .ok (.aload_n 0, 1) := by decide +kernel
theorem dX10_freeze_1 : decode cX10_freeze 1 = .ok (.iload_n 1, 1) := by decide +kernel
theorem dX10_freeze_2 : decode cX10_freeze 2 = .ok (.invokevirtual 134, 3) := by decide +kernel
theorem dX10_freeze_5 : decode cX10_freeze 5 = .ok (.ifCond .ne 6, 3) := by decide +kernel
theorem dX10_freeze_8 : decode cX10_freeze 8 = .ok (.bipush (-2), 2) := by decide +kernel
theorem dX10_freeze_10 : decode cX10_freeze 10 = .ok (.ireturn, 1) := by decide +kernel
theorem dX10_freeze_11 : decode cX10_freeze 11 = .ok (.aload_n 0, 1) := by decide +kernel
theorem dX10_freeze_12 : decode cX10_freeze 12 = .ok (.getfield 32, 3) := by decide +kernel
theorem dX10_freeze_15 : decode cX10_freeze 15 = .ok (.iload_n 1, 1) := by decide +kernel
theorem dX10_freeze_16 : decode cX10_freeze 16 = .ok (.baload, 1) := by decide +kernel
theorem dX10_freeze_17 : decode cX10_freeze 17 = .ok (.iload_n 2, 1) := by decide +kernel
theorem dX10_freeze_18 : decode cX10_freeze 18 = .ok (.if_icmp .ne 7, 3) := by decide +kernel
theorem dX10_freeze_21 : decode cX10_freeze 21 = .ok (.iconst 0, 1) := by decide +kernel
theorem dX10_freeze_22 : decode cX10_freeze 22 = .ok (.goto 4, 3) := by decide +kernel
theorem dX10_freeze_25 : decode cX10_freeze 25 = .ok (.iconst 1, 1) := by decide +kernel
theorem dX10_freeze_26 : decode cX10_freeze 26 = .ok (.istore_n 3, 1) := by decide +kernel
theorem dX10_freeze_27 : decode cX10_freeze 27 = .ok (.aload_n 0, 1) := by decide +kernel
theorem dX10_freeze_28 : decode cX10_freeze 28 = .ok (.getfield 32, 3) := by decide +kernel
theorem dX10_freeze_31 : decode cX10_freeze 31 = .ok (.iload_n 1, 1) := by decide +kernel
theorem dX10_freeze_32 : decode cX10_freeze 32 = .ok (.iload_n 2, 1) := by decide +kernel
theorem dX10_freeze_33 : decode cX10_freeze 33 = .ok (.bastore, 1) := by decide +kernel
theorem dX10_freeze_34 : decode cX10_freeze 34 = .ok (.iload_n 3, 1) := by decide +kernel
theorem dX10_freeze_35 : decode cX10_freeze 35 = .ok (.ireturn, 1) := by decide +kernel
set_option maxRecDepth 20000 in
theorem ggX10_about_X10_isHandler : GoodIn wsX10_about wsX10_isHandler := goodIn_r _ [14, 15, 16, 17, 18, 19, 20, 21, 22, 23, 24, 25, 26, 27, 28, 29, 30, 31, 32, 33, 34, 35, 36, 37, 38, 39, 40, 41, 42, 43, 44, 45, 46, 47, 48, 49, 50, 51, 52, 53, 54] (by decide +kernel) (by decide +kernel)
set_option maxRecDepth 20000 in
theorem gX10_about_X10_isHandler : GoodIn wsX10_about (wsV RX10 139 RX10 yX10_isHandler wsX10_isHandler) := goodIn_app (goodIn_of _ (by decide +kernel)) ggX10_about_X10_isHandler
theorem dX10_about_0 : decode cX10_about 0 = .ok (.aload_n 0, 1) := by decide +kernel
theorem dX10_about_1 : decode cX10_about 1 = .ok (.iload_n 1, 1) := by decide +kernel
theorem dX10_about_2 : decode cX10_about 2 = .ok (.invokevirtual 139, 3) := by decide +kernel
theorem dX10_about_5 : decode cX10_about 5 = .ok (.ifCond .eq 13, 3) := by decide +kernel
theorem dX10_about_8 : decode cX10_about 8 = .ok (.iload_n 2, 1) := by decide +kernel
theorem dX10_about_9 : decode cX10_about 9 = .ok (.ifCond .lt 9, 3) := by decide +kernel
theorem dX10_about_12 : decode cX10_about 12 = .ok (.iload_n 2, 1) := by decide +kernel
theorem dX10_about_13 : decode cX10_about 13 = .ok (.bipush 10, 2) := by decide +kernel
theorem dX10_about_15 : decode cX10_about 15 = .ok (.if_icmp .le 6, 3) := by decide +kernel
theorem dX10_about_18 : decode cX10_about 18 = .ok (.bipush (-2), 2) := by decide +kernel
theorem dX10_about_20 : decode cX10_about 20 = .ok (.ireturn, 1) := by decide +kernel
theorem dX10_about_21 : decode cX10_about 21 = .ok (.iload_n 2, 1) := by decide +kernel
theorem dX10_about_22 : decode cX10_about 22 = .ok (.iconst 5, 1) := by decide +kernel
theorem dX10_about_23 : decode cX10_about 23 = .ok (.isub, 1) := by decide +kernel
theorem dX10_about_24 : decode cX10_about 24 = .ok (.iconst 2, 1) := by decide +kernel
theorem dX10_about_25 : decode cX10_about 25 = .ok (.irem, 1) := by decide +kernel
theorem dX10_about_26 : decode cX10_about 26 = .ok (.istore_n 3, 1) := by decide +kernel
theorem dX10_about_27 : decode cX10_about 27 = .ok (.iload_n 2, 1) := by decide +kernel
theorem dX10_about_28 : decode cX10_about 28 = .ok (.iconst 5, 1) := by decide +kernel
theorem dX10_about_29 : decode cX10_about 29 = .ok (.if_icmp .lt 18, 3) := by decide +kernel
theorem dX10_about_32 : decode cX10_about 32 = .ok (.iload_n 3, 1) := by decide +kernel
theorem dX10_about_33 : decode cX10_about 33 = .ok (.aload_n 0, 1) := by decide +kernel
theorem dX10_about_34 : decode cX10_about 34 = .ok (.getfield 29, 3) := by decide +kernel
theorem dX10_about_37 : decode cX10_about 37 = .ok (.aload_n 0, 1) := by decide +kernel
theorem dX10_about_38 : decode cX10_about 38 = .ok (.getfield 45, 3) := by decide +kernel
theorem dX10_about_41 : decode cX10_about 41 = .ok (.iload_n 1, 1) := by decide +kernel
theorem dX10_about_42 : decode cX10_about 42 = .ok (.iaload, 1) := by decide +kernel
theorem dX10_about_43 : decode cX10_about 43 = .ok (.iaload, 1) := by decide +kernel
theorem dX10_about_44 : decode cX10_about 44 = .ok (.if_icmp .ge 7, 3) := by decide +kernel
theorem dX10_about_47 : decode cX10_about 47 = .ok (.iconst 1, 1) := by decide +kernel
theorem dX10_about_48 : decode cX10_about 48 = .ok (.goto 4, 3) := by decide +kernel
theorem dX10_about_51 : decode cX10_about 51 = .ok (.iconst 0, 1) := by decide +kernel
theorem dX10_about_52 : decode cX10_about 52 = .ok (.istore 4, 2) := by decide +kernel
theorem dX10_about_54 : decode cX10_about 54 = .ok (.iload_n 2, 1) := by decide +kernel
theorem dX10_about_55 : decode cX10_about 55 = .ok (.tableswitch 132 0 8 #[49, 56, 63, 70, 85, 92, 92, 112, 112], 49) := by decide +kernel
theorem dX10_about_104 : decode cX10_about 104 = .ok (.aload_n 0, 1) := by decide +kernel
theorem dX10_about_105 : decode cX10_about 105 = .ok (.getfield 45, 3) := by decide +kernel
theorem dX10_about_108 : decode cX10_about 108 = .ok (.iload_n 1, 1) := by decide +kernel
theorem dX10_about_109 : decode cX10_about 109 = .ok (.iaload, 1) := by decide +kernel
theorem dX10_about_110 : decode cX10_about 110 = .ok (.ireturn, 1) := by decide +kernel
theorem dX10_about_111 : decode cX10_about 111 = .ok (.aload_n 0, 1) := by decide +kernel
theorem dX10_about_112 : decode cX10_about 112 = .ok (.getfield 48, 3) := by decide +kernel
theorem dX10_about_115 : decode cX10_about 115 = .ok (.iload_n 1, 1) := by decide +kernel
theorem dX10_about_116 : decode cX10_about 116 = .ok (.iaload, 1) := by decide +kernel
theorem dX10_about_117 : decode cX10_about 117 = .ok (.ireturn, 1) := by decide +kernel
theorem dX10_about_118 : decode cX10_about 118 = .ok (.aload_n 0, 1) := by decide +kernel
theorem dX10_about_119 : decode cX10_about 119 = .ok (.getfield 51, 3) := by decide +kernel
theorem dX10_about_122 : decode cX10_about 122 = .ok (.iload_n 1, 1) := by decide +kernel
theorem dX10_about_123 : decode cX10_about 123 = .ok (.iaload, 1) := by decide +kernel
theorem dX10_about_124 : decode cX10_about 124 = .ok (.ireturn, 1) := by decide +kernel
theorem dX10_about_125 : decode cX10_about 125 = .ok (.aload_n 0, 1) := by decide +kernel
theorem dX10_about_126 : decode cX10_about 126 = .ok (.getfield 54, 3) := by decide +kernel
theorem dX10_about_129 : decode cX10_about 129 = .ok (.iload_n 1, 1) := by decide +kernel
theorem dX10_about_130 : decode cX10_about 130 = .ok (.baload, 1) := by decide +kernel
theorem dX10_about_131 : decode cX10_about 131 = .ok (.ifCond .eq 7, 3) := by decide +kernel
theorem dX10_about_134 : decode cX10_about 134 = .ok (.iconst 1, 1) := by decide +kernel
theorem dX10_about_135 : decode cX10_about 135 = .ok (.goto 4, 3) := by decide +kernel
theorem dX10_about_138 : decode cX10_about 138 = .ok (.iconst 0, 1) := by decide +kernel
theorem dX10_about_139 : decode cX10_about 139 = .ok (.ireturn, 1) := by decide +kernel
theorem dX10_about_140 : decode cX10_about 140 = .ok (.aload_n 0, 1) := by decide +kernel
theorem dX10_about_141 : decode cX10_about 141 = .ok (.getfield 57, 3) := by decide +kernel
theorem dX10_about_144 : decode cX10_about 144 = .ok (.iload_n 1, 1) := by decide +kernel
theorem dX10_about_145 : decode cX10_about 145 = .ok (.iaload, 1) := by decide +kernel
theorem dX10_about_146 : decode cX10_about 146 = .ok (.ireturn, 1) := by decide +kernel
theorem dX10_about_147 : decode cX10_about 147 = .ok (.iload 4, 2) := by decide +kernel
theorem dX10_about_149 : decode cX10_about 149 = .ok (.ifCond .eq 16, 3) := by decide +kernel
theorem dX10_about_152 : decode cX10_about 152 = .ok (.aload_n 0, 1) := by decide +kernel
theorem dX10_about_153 : decode cX10_about 153 = .ok (.getfield 60, 3) := by decide +kernel
theorem dX10_about_156 : decode cX10_about 156 = .ok (.iconst 2, 1) := by decide +kernel
theorem dX10_about_157 : decode cX10_about 157 = .ok (.iload_n 1, 1) := by decide +kernel
theorem dX10_about_158 : decode cX10_about 158 = .ok (.imul, 1) := by decide +kernel
theorem dX10_about_159 : decode cX10_about 159 = .ok (.iload_n 3, 1) := by decide +kernel
theorem dX10_about_160 : decode cX10_about 160 = .ok (.iadd, 1) := by decide +kernel
theorem dX10_about_161 : decode cX10_about 161 = .ok (.iaload, 1) := by decide +kernel
theorem dX10_about_162 : decode cX10_about 162 = .ok (.goto 4, 3) := by decide +kernel
theorem dX10_about_165 : decode cX10_about 165 = .ok (.iconst 0, 1) := by decide +kernel
theorem dX10_about_166 : decode cX10_about 166 = .ok (.ireturn, 1) := by decide +kernel
theorem dX10_about_167 : decode cX10_about 167 = .ok (.iload 4, 2) := by decide +kernel
theorem dX10_about_169 : decode cX10_about 169 = .ok (.ifCond .eq 16, 3) := by decide +kernel
theorem dX10_about_172 : decode cX10_about 172 = .ok (.aload_n 0, 1) := by decide +kernel
theorem dX10_about_173 : decode cX10_about 173 = .ok (.getfield 63, 3) := by decide +kernel
theorem dX10_about_176 : decode cX10_about 176 = .ok (.iconst 2, 1) := by decide +kernel
theorem dX10_about_177 : decode cX10_about 177 = .ok (.iload_n 1, 1) := by decide +kernel
theorem dX10_about_178 : decode cX10_about 178 = .ok (.imul, 1) := by decide +kernel
theorem dX10_about_179 : decode cX10_about 179 = .ok (.iload_n 3, 1) := by decide +kernel
theorem dX10_about_180 : decode cX10_about 180 = .ok (.iadd, 1) := by decide +kernel
theorem dX10_about_181 : decode cX10_about 181 = .ok (.iaload, 1) := by decide +kernel
theorem dX10_about_182 : decode cX10_about 182 = .ok (.goto 4, 3) := by decide +kernel
theorem dX10_about_185 : decode cX10_about 185 = .ok (.iconst 0, 1) := by decide +kernel
theorem dX10_about_186 : decode cX10_about 186 = .ok (.ireturn, 1) := by decide +kernel
theorem dX10_about_187 : decode cX10_about 187 = .ok (.iload 4, 2) := by decide +kernel
theorem dX10_about_189 : decode cX10_about 189 = .ok (.ifCond .eq 16, 3) := by decide +kernel
theorem dX10_about_192 : decode cX10_about 192 = .ok (.aload_n 0, 1) := by decide +kernel
theorem dX10_about_193 : decode cX10_about 193 = .ok (.getfield 66, 3) := by decide +kernel
theorem dX10_about_196 : decode cX10_about 196 = .ok (.iconst 2, 1) := by decide +kernel
theorem dX10_about_197 : decode cX10_about 197 = .ok (.iload_n 1, 1) := by decide +kernel
theorem dX10_about_198 : decode cX10_about 198 = .ok (.imul, 1) := by decide +kernel
theorem dX10_about_199 : decode cX10_about 199 = .ok (.iload_n 3, 1) := by decide +kernel
theorem dX10_about_200 : decode cX10_about 200 = .ok (.iadd, 1) := by decide +kernel
theorem dX10_about_201 : decode cX10_about 201 = .ok (.iaload, 1) := by decide +kernel
theorem dX10_about_202 : decode cX10_about 202 = .ok (.goto 4, 3) := by decide +kernel
theorem dX10_about_205 : decode cX10_about 205 = .ok (.iconst 0, 1) := by decide +kernel
theorem dX10_about_206 : decode cX10_about 206 = .ok (.ireturn, 1) := by decide +kernel
set_option maxRecDepth 20000 in
theorem ggX10_dominates_X10_isHandler : GoodIn wsX10_dominates wsX10_isHandler := goodIn_r _ [5, 6, 29, 30, 31, 32, 33, 34, 35, 36, 37, 38, 39, 40, 41, 42, 43, 44, 45, 46, 47, 48, 49, 50, 51, 52, 53, 54, 55, 56, 57, 58, 59, 60, 61, 62, 63, 64, 65, 66, 67] (by decide +kernel) (by decide +kernel)
set_option maxRecDepth 20000 in
theorem gX10_dominates_X10_isHandler : GoodIn wsX10_dominates (wsV RX10 139 RX10 yX10_isHandler wsX10_isHandler) := goodIn_app (goodIn_of _ (by decide +kernel)) ggX10_dominates_X10_isHandler
set_option maxRecDepth 20000 in
theorem ggX10_dominates_X10_isMore : GoodIn wsX10_dominates wsX10_isMore := goodIn_r _ [10, 11, 12, 13, 14, 15, 4, 16, 17, 18, 19, 20, 21, 22, 23, 24, 25, 26, 27, 28, 29, 30, 31, 32, 33, 34, 35, 36, 37, 38, 39, 40, 41, 42, 43, 44, 45, 46, 47, 48, 49, 50, 51, 52, 53, 54, 55, 56, 57, 58, 59, 60, 61, 62, 63, 64, 65, 66, 67] (by decide +kernel) (by decide +kernel)
set_option maxRecDepth 20000 in
theorem gX10_dominates_X10_isMore : GoodIn wsX10_dominates (wsV RX10 159 RX10 yX10_isMore wsX10_isMore) := goodIn_app (goodIn_of _ (by decide +kernel)) ggX10_dominates_X10_isMore
theorem dX10_dominates_0 : decode cX10_dominates 0 = .ok (.aload_n 0, 1) := by decide +kernel
theorem dX10_dominates_1 : decode cX10_dominates 1 = .ok (.iload_n 1, 1) := by decide +kernel
theorem dX10_dominates_2 : decode cX10_dominates 2 = .ok (.invokevirtual 139, 3) := by decide +kernel
theorem dX10_dominates_5 : decode cX10_dominates 5 = .ok (.ifCond .eq 24, 3) := by decide +kernel
theorem dX10_dominates_8 : decode cX10_dominates 8 = .ok (.aload_n 0, 1) := by decide +kernel
theorem dX10_dominates_9 : decode cX10_dominates 9 = .ok (.iload_n 2, 1) := by decide +kernel
theorem dX10_dominates_10 : decode cX10_dominates 10 = .ok (.invokevirtual 139, 3) := by decide +kernel
theorem dX10_dominates_13 : decode cX10_dominates 13 = .ok (.ifCond .eq 16, 3) := by decide +kernel
theorem dX10_dominates_16 : decode cX10_dominates 16 = .ok (.aload_n 0, 1) := by decide +kernel
theorem dX10_dominates_17 : decode cX10_dominates 17 = .ok (.iload_n 1, 1) := by decide +kernel
theorem dX10_dominates_18 : decode cX10_dominates 18 = .ok (.iload_n 2, 1) := by decide +kernel
theorem dX10_dominates_19 : decode cX10_dominates 19 = .ok (.invokevirtual 159, 3) := by decide +kernel
theorem dX10_dominates_22 : decode cX10_dominates 22 = .ok (.ifCond .eq 7, 3) := by decide +kernel
theorem dX10_dominates_25 : decode cX10_dominates 25 = .ok (.iconst 1, 1) := by decide +kernel
theorem dX10_dominates_26 : decode cX10_dominates 26 = .ok (.goto 4, 3) := by decide +kernel
theorem dX10_dominates_29 : decode cX10_dominates 29 = .ok (.iconst 0, 1) := by decide +kernel
theorem dX10_dominates_30 : decode cX10_dominates 30 = .ok (.ireturn, 1) := by decide +kernel
set_option maxRecDepth 20000 in
theorem ggX10_inOrder_X10_isLaid : GoodIn wsX10_inOrder wsX10_isLaid := goodIn_r _ [7, 8, 9, 31, 32, 33, 34, 35, 36, 37, 38, 39, 40, 41, 42, 43, 44, 45, 46, 47, 48, 49, 50, 51, 52, 53, 54, 55, 56, 57, 58, 59, 60, 61, 62, 63, 64, 65, 66, 67, 68, 69] (by decide +kernel) (by decide +kernel)
set_option maxRecDepth 20000 in
theorem gX10_inOrder_X10_isLaid : GoodIn wsX10_inOrder (wsV RX10 145 RX10 yX10_isLaid wsX10_isLaid) := goodIn_app (goodIn_of _ (by decide +kernel)) ggX10_inOrder_X10_isLaid
set_option maxRecDepth 20000 in
theorem ggX10_inOrder_X10_isMore : GoodIn wsX10_inOrder wsX10_isMore := goodIn_r _ [13, 8, 14, 15, 16, 17, 6, 18, 19, 20, 21, 22, 23, 24, 25, 26, 27, 28, 29, 30, 31, 32, 33, 34, 35, 36, 37, 38, 39, 40, 41, 42, 43, 44, 45, 46, 47, 48, 49, 50, 51, 52, 53, 54, 55, 56, 57, 58, 59, 60, 61, 62, 63, 64, 65, 66, 67, 68, 69] (by decide +kernel) (by decide +kernel)
set_option maxRecDepth 20000 in
theorem gX10_inOrder_X10_isMore : GoodIn wsX10_inOrder (wsV RX10 159 RX10 yX10_isMore wsX10_isMore) := goodIn_app (goodIn_of _ (by decide +kernel)) ggX10_inOrder_X10_isMore
theorem dX10_inOrder_0 : decode cX10_inOrder 0 = .ok (.iconst 0, 1) := by decide +kernel
theorem dX10_inOrder_1 : decode cX10_inOrder 1 = .ok (.istore_n 3, 1) := by decide +kernel
theorem dX10_inOrder_2 : decode cX10_inOrder 2 = .ok (.iload_n 3, 1) := by decide +kernel
theorem dX10_inOrder_3 : decode cX10_inOrder 3 = .ok (.aload_n 0, 1) := by decide +kernel
theorem dX10_inOrder_4 : decode cX10_inOrder 4 = .ok (.getfield 131, 3) := by decide +kernel
theorem dX10_inOrder_7 : decode cX10_inOrder 7 = .ok (.if_icmp .ge 29, 3) := by decide +kernel
theorem dX10_inOrder_10 : decode cX10_inOrder 10 = .ok (.aload_n 0, 1) := by decide +kernel
theorem dX10_inOrder_11 : decode cX10_inOrder 11 = .ok (.getfield 91, 3) := by decide +kernel
theorem dX10_inOrder_14 : decode cX10_inOrder 14 = .ok (.iload_n 3, 1) := by decide +kernel
theorem dX10_inOrder_15 : decode cX10_inOrder 15 = .ok (.aload_n 0, 1) := by decide +kernel
theorem dX10_inOrder_16 : decode cX10_inOrder 16 = .ok (.iload_n 3, 1) := by decide +kernel
theorem dX10_inOrder_17 : decode cX10_inOrder 17 = .ok (.iload_n 1, 1) := by decide +kernel
theorem dX10_inOrder_18 : decode cX10_inOrder 18 = .ok (.invokevirtual 145, 3) := by decide +kernel
theorem dX10_inOrder_21 : decode cX10_inOrder 21 = .ok (.ifCond .ne 7, 3) := by decide +kernel
theorem dX10_inOrder_24 : decode cX10_inOrder 24 = .ok (.iconst 1, 1) := by decide +kernel
theorem dX10_inOrder_25 : decode cX10_inOrder 25 = .ok (.goto 4, 3) := by decide +kernel
theorem dX10_inOrder_28 : decode cX10_inOrder 28 = .ok (.iconst 0, 1) := by decide +kernel
theorem dX10_inOrder_29 : decode cX10_inOrder 29 = .ok (.bastore, 1) := by decide +kernel
theorem dX10_inOrder_30 : decode cX10_inOrder 30 = .ok (.iinc 3 1, 3) := by decide +kernel
theorem dX10_inOrder_33 : decode cX10_inOrder 33 = .ok (.goto (-31), 3) := by decide +kernel
theorem dX10_inOrder_36 : decode cX10_inOrder 36 = .ok (.iconst (-1), 1) := by decide +kernel
theorem dX10_inOrder_37 : decode cX10_inOrder 37 = .ok (.istore_n 3, 1) := by decide +kernel
theorem dX10_inOrder_38 : decode cX10_inOrder 38 = .ok (.iconst 0, 1) := by decide +kernel
theorem dX10_inOrder_39 : decode cX10_inOrder 39 = .ok (.istore 4, 2) := by decide +kernel
theorem dX10_inOrder_41 : decode cX10_inOrder 41 = .ok (.iload 4, 2) := by decide +kernel
theorem dX10_inOrder_43 : decode cX10_inOrder 43 = .ok (.iload_n 2, 1) := by decide +kernel
theorem dX10_inOrder_44 : decode cX10_inOrder 44 = .ok (.if_icmp .gt 123, 3) := by decide +kernel
theorem dX10_inOrder_47 : decode cX10_inOrder 47 = .ok (.iconst (-1), 1) := by decide +kernel
theorem dX10_inOrder_48 : decode cX10_inOrder 48 = .ok (.istore_n 3, 1) := by decide +kernel
theorem dX10_inOrder_49 : decode cX10_inOrder 49 = .ok (.aload_n 0, 1) := by decide +kernel
theorem dX10_inOrder_50 : decode cX10_inOrder 50 = .ok (.getfield 131, 3) := by decide +kernel
theorem dX10_inOrder_53 : decode cX10_inOrder 53 = .ok (.iconst 1, 1) := by decide +kernel
theorem dX10_inOrder_54 : decode cX10_inOrder 54 = .ok (.isub, 1) := by decide +kernel
theorem dX10_inOrder_55 : decode cX10_inOrder 55 = .ok (.istore 5, 2) := by decide +kernel
theorem dX10_inOrder_57 : decode cX10_inOrder 57 = .ok (.iload 5, 2) := by decide +kernel
theorem dX10_inOrder_59 : decode cX10_inOrder 59 = .ok (.ifCond .lt 89, 3) := by decide +kernel
theorem dX10_inOrder_62 : decode cX10_inOrder 62 = .ok (.aload_n 0, 1) := by decide +kernel
theorem dX10_inOrder_63 : decode cX10_inOrder 63 = .ok (.getfield 91, 3) := by decide +kernel
theorem dX10_inOrder_66 : decode cX10_inOrder 66 = .ok (.iload 5, 2) := by decide +kernel
theorem dX10_inOrder_68 : decode cX10_inOrder 68 = .ok (.baload, 1) := by decide +kernel
theorem dX10_inOrder_69 : decode cX10_inOrder 69 = .ok (.ifCond .ne 7, 3) := by decide +kernel
theorem dX10_inOrder_72 : decode cX10_inOrder 72 = .ok (.iconst 1, 1) := by decide +kernel
theorem dX10_inOrder_73 : decode cX10_inOrder 73 = .ok (.goto 4, 3) := by decide +kernel
theorem dX10_inOrder_76 : decode cX10_inOrder 76 = .ok (.iconst 0, 1) := by decide +kernel
theorem dX10_inOrder_77 : decode cX10_inOrder 77 = .ok (.istore 6, 2) := by decide +kernel
theorem dX10_inOrder_79 : decode cX10_inOrder 79 = .ok (.iconst 0, 1) := by decide +kernel
theorem dX10_inOrder_80 : decode cX10_inOrder 80 = .ok (.istore 7, 2) := by decide +kernel
theorem dX10_inOrder_82 : decode cX10_inOrder 82 = .ok (.iload 7, 2) := by decide +kernel
theorem dX10_inOrder_84 : decode cX10_inOrder 84 = .ok (.aload_n 0, 1) := by decide +kernel
theorem dX10_inOrder_85 : decode cX10_inOrder 85 = .ok (.getfield 131, 3) := by decide +kernel
theorem dX10_inOrder_88 : decode cX10_inOrder 88 = .ok (.if_icmp .ge 42, 3) := by decide +kernel
theorem dX10_inOrder_91 : decode cX10_inOrder 91 = .ok (.iload 6, 2) := by decide +kernel
theorem dX10_inOrder_93 : decode cX10_inOrder 93 = .ok (.ifCond .eq 28, 3) := by decide +kernel
theorem dX10_inOrder_96 : decode cX10_inOrder 96 = .ok (.aload_n 0, 1) := by decide +kernel
theorem dX10_inOrder_97 : decode cX10_inOrder 97 = .ok (.getfield 91, 3) := by decide +kernel
theorem dX10_inOrder_100 : decode cX10_inOrder 100 = .ok (.iload 7, 2) := by decide +kernel
theorem dX10_inOrder_102 : decode cX10_inOrder 102 = .ok (.baload, 1) := by decide +kernel
theorem dX10_inOrder_103 : decode cX10_inOrder 103 = .ok (.ifCond .ne 14, 3) := by decide +kernel
theorem dX10_inOrder_106 : decode cX10_inOrder 106 = .ok (.aload_n 0, 1) := by decide +kernel
theorem dX10_inOrder_107 : decode cX10_inOrder 107 = .ok (.iload 7, 2) := by decide +kernel
theorem dX10_inOrder_109 : decode cX10_inOrder 109 = .ok (.iload 5, 2) := by decide +kernel
theorem dX10_inOrder_111 : decode cX10_inOrder 111 = .ok (.invokevirtual 159, 3) := by decide +kernel
theorem dX10_inOrder_114 : decode cX10_inOrder 114 = .ok (.ifCond .ne 7, 3) := by decide +kernel
theorem dX10_inOrder_117 : decode cX10_inOrder 117 = .ok (.iconst 1, 1) := by decide +kernel
theorem dX10_inOrder_118 : decode cX10_inOrder 118 = .ok (.goto 4, 3) := by decide +kernel
theorem dX10_inOrder_121 : decode cX10_inOrder 121 = .ok (.iconst 0, 1) := by decide +kernel
theorem dX10_inOrder_122 : decode cX10_inOrder 122 = .ok (.istore 6, 2) := by decide +kernel
theorem dX10_inOrder_124 : decode cX10_inOrder 124 = .ok (.iinc 7 1, 3) := by decide +kernel
theorem dX10_inOrder_127 : decode cX10_inOrder 127 = .ok (.goto (-45), 3) := by decide +kernel
theorem dX10_inOrder_130 : decode cX10_inOrder 130 = .ok (.iload 6, 2) := by decide +kernel
theorem dX10_inOrder_132 : decode cX10_inOrder 132 = .ok (.ifCond .eq 8, 3) := by decide +kernel
theorem dX10_inOrder_135 : decode cX10_inOrder 135 = .ok (.iload 5, 2) := by decide +kernel
theorem dX10_inOrder_137 : decode cX10_inOrder 137 = .ok (.goto 4, 3) := by decide +kernel
theorem dX10_inOrder_140 : decode cX10_inOrder 140 = .ok (.iload_n 3, 1) := by decide +kernel
theorem dX10_inOrder_141 : decode cX10_inOrder 141 = .ok (.istore_n 3, 1) := by decide +kernel
theorem dX10_inOrder_142 : decode cX10_inOrder 142 = .ok (.iinc 5 (-1), 3) := by decide +kernel
theorem dX10_inOrder_145 : decode cX10_inOrder 145 = .ok (.goto (-88), 3) := by decide +kernel
theorem dX10_inOrder_148 : decode cX10_inOrder 148 = .ok (.iload_n 3, 1) := by decide +kernel
theorem dX10_inOrder_149 : decode cX10_inOrder 149 = .ok (.ifCond .ge 5, 3) := by decide +kernel
theorem dX10_inOrder_152 : decode cX10_inOrder 152 = .ok (.iconst (-1), 1) := by decide +kernel
theorem dX10_inOrder_153 : decode cX10_inOrder 153 = .ok (.ireturn, 1) := by decide +kernel
theorem dX10_inOrder_154 : decode cX10_inOrder 154 = .ok (.aload_n 0, 1) := by decide +kernel
theorem dX10_inOrder_155 : decode cX10_inOrder 155 = .ok (.getfield 91, 3) := by decide +kernel
theorem dX10_inOrder_158 : decode cX10_inOrder 158 = .ok (.iload_n 3, 1) := by decide +kernel
theorem dX10_inOrder_159 : decode cX10_inOrder 159 = .ok (.iconst 1, 1) := by decide +kernel
theorem dX10_inOrder_160 : decode cX10_inOrder 160 = .ok (.bastore, 1) := by decide +kernel
theorem dX10_inOrder_161 : decode cX10_inOrder 161 = .ok (.iinc 4 1, 3) := by decide +kernel
theorem dX10_inOrder_164 : decode cX10_inOrder 164 = .ok (.goto (-123), 3) := by decide +kernel
theorem dX10_inOrder_167 : decode cX10_inOrder 167 = .ok (.iload_n 3, 1) := by decide +kernel
theorem dX10_inOrder_168 : decode cX10_inOrder 168 = .ok (.ireturn, 1) := by decide +kernel
set_option maxRecDepth 20000 in
theorem ggX10_order_X10_isFunction : GoodIn wsX10_order wsX10_isFunction := goodIn_r _ [5, 6, 44, 45, 46, 47, 48, 49, 50, 51, 52, 53, 54, 55, 56, 57, 58, 59, 60, 61, 62, 63, 64, 65, 66, 67, 68, 69, 70, 71, 72, 73, 74, 75, 76, 77, 78, 79, 80, 81, 82] (by decide +kernel) (by decide +kernel)
set_option maxRecDepth 20000 in
theorem gX10_order_X10_isFunction : GoodIn wsX10_order (wsV RX10 134 RX10 yX10_isFunction wsX10_isFunction) := goodIn_app (goodIn_of _ (by decide +kernel)) ggX10_order_X10_isFunction
set_option maxRecDepth 20000 in
theorem ggX10_order_X10_laid : GoodIn wsX10_order wsX10_laid := goodIn_r _ [10, 11, 12, 13, 14, 4, 15, 16, 17, 44, 45, 46, 47, 48, 49, 50, 51, 52, 53, 54, 55, 56, 57, 58, 59, 60, 61, 62, 63, 64, 65, 66, 67, 68, 69, 70, 71, 72, 73, 74, 75, 76, 77, 78, 79, 80, 81, 82] (by decide +kernel) (by decide +kernel)
set_option maxRecDepth 20000 in
theorem gX10_order_X10_laid : GoodIn wsX10_order (wsV RX10 155 RX10 yX10_laid wsX10_laid) := goodIn_app (goodIn_of _ (by decide +kernel)) ggX10_order_X10_laid
set_option maxRecDepth 20000 in
theorem ggX10_order_X10_inOrder : GoodIn wsX10_order wsX10_inOrder := goodIn_r _ [21, 11, 22, 12, 13, 14, 4, 15, 16, 17, 23, 24, 25, 26, 27, 28, 29, 30, 31, 32, 33, 34, 35, 36, 37, 38, 39, 40, 41, 42, 43, 44, 45, 46, 47, 48, 49, 50, 51, 52, 53, 54, 55, 56, 57, 58, 59, 60, 61, 62, 63, 64, 65, 66, 67, 68, 69, 70, 71, 72, 73, 74, 75, 76, 77, 78, 79, 80, 81, 82] (by decide +kernel) (by decide +kernel)
set_option maxRecDepth 20000 in
theorem gX10_order_X10_inOrder : GoodIn wsX10_order (wsV RX10 162 RX10 yX10_inOrder wsX10_inOrder) := goodIn_app (goodIn_of _ (by decide +kernel)) ggX10_order_X10_inOrder
theorem dX10_order_0 : decode cX10_order 0 = .ok (.aload_n 0, 1) := by decide +kernel
theorem dX10_order_1 : decode cX10_order 1 = .ok (.iload_n 1, 1) := by decide +kernel
theorem dX10_order_2 : decode cX10_order 2 = .ok (.invokevirtual 134, 3) := by decide +kernel
theorem dX10_order_5 : decode cX10_order 5 = .ok (.ifCond .eq 25, 3) := by decide +kernel
theorem dX10_order_8 : decode cX10_order 8 = .ok (.iload_n 2, 1) := by decide +kernel
theorem dX10_order_9 : decode cX10_order 9 = .ok (.ifCond .lt 21, 3) := by decide +kernel
theorem dX10_order_12 : decode cX10_order 12 = .ok (.iload_n 2, 1) := by decide +kernel
theorem dX10_order_13 : decode cX10_order 13 = .ok (.aload_n 0, 1) := by decide +kernel
theorem dX10_order_14 : decode cX10_order 14 = .ok (.iload_n 1, 1) := by decide +kernel
theorem dX10_order_15 : decode cX10_order 15 = .ok (.invokevirtual 155, 3) := by decide +kernel
theorem dX10_order_18 : decode cX10_order 18 = .ok (.if_icmp .ge 12, 3) := by decide +kernel
theorem dX10_order_21 : decode cX10_order 21 = .ok (.aload_n 0, 1) := by decide +kernel
theorem dX10_order_22 : decode cX10_order 22 = .ok (.iload_n 1, 1) := by decide +kernel
theorem dX10_order_23 : decode cX10_order 23 = .ok (.iload_n 2, 1) := by decide +kernel
theorem dX10_order_24 : decode cX10_order 24 = .ok (.invokevirtual 162, 3) := by decide +kernel
theorem dX10_order_27 : decode cX10_order 27 = .ok (.goto 4, 3) := by decide +kernel
theorem dX10_order_30 : decode cX10_order 30 = .ok (.iconst (-1), 1) := by decide +kernel
theorem dX10_order_31 : decode cX10_order 31 = .ok (.ireturn, 1) := by decide +kernel
set_option maxRecDepth 20000 in
theorem ggX10_takesAt_X10_isBelow : GoodIn wsX10_takesAt wsX10_isBelow := goodIn_r _ [10, 11, 12, 13, 14, 15, 16, 17, 18, 19, 20, 21, 22, 23, 24, 25, 26, 27, 28, 29, 30, 31, 32, 33, 34, 35, 36, 37, 38, 39, 40, 41, 42, 43, 44, 45, 46, 47, 48, 49, 50] (by decide +kernel) (by decide +kernel)
set_option maxRecDepth 20000 in
theorem gX10_takesAt_X10_isBelow : GoodIn wsX10_takesAt (wsV RX10 121 RX10 yX10_isBelow wsX10_isBelow) := goodIn_app (goodIn_of _ (by decide +kernel)) ggX10_takesAt_X10_isBelow
theorem dX10_takesAt_0 : decode cX10_takesAt 0 = .ok (.aload_n 0, 1) := by decide +kernel
theorem dX10_takesAt_1 : decode cX10_takesAt 1 = .ok (.getfield 60, 3) := by decide +kernel
theorem dX10_takesAt_4 : decode cX10_takesAt 4 = .ok (.iconst 2, 1) := by decide +kernel
theorem dX10_takesAt_5 : decode cX10_takesAt 5 = .ok (.iload_n 1, 1) := by decide +kernel
theorem dX10_takesAt_6 : decode cX10_takesAt 6 = .ok (.imul, 1) := by decide +kernel
theorem dX10_takesAt_7 : decode cX10_takesAt 7 = .ok (.iload_n 2, 1) := by decide +kernel
theorem dX10_takesAt_8 : decode cX10_takesAt 8 = .ok (.iadd, 1) := by decide +kernel
theorem dX10_takesAt_9 : decode cX10_takesAt 9 = .ok (.iaload, 1) := by decide +kernel
theorem dX10_takesAt_10 : decode cX10_takesAt 10 = .ok (.istore_n 3, 1) := by decide +kernel
theorem dX10_takesAt_11 : decode cX10_takesAt 11 = .ok (.iload_n 3, 1) := by decide +kernel
theorem dX10_takesAt_12 : decode cX10_takesAt 12 = .ok (.iconst (-1), 1) := by decide +kernel
theorem dX10_takesAt_13 : decode cX10_takesAt 13 = .ok (.if_icmp .eq 17, 3) := by decide +kernel
theorem dX10_takesAt_16 : decode cX10_takesAt 16 = .ok (.aload_n 0, 1) := by decide +kernel
theorem dX10_takesAt_17 : decode cX10_takesAt 17 = .ok (.aload_n 0, 1) := by decide +kernel
theorem dX10_takesAt_18 : decode cX10_takesAt 18 = .ok (.getfield 82, 3) := by decide +kernel
theorem dX10_takesAt_21 : decode cX10_takesAt 21 = .ok (.iload_n 2, 1) := by decide +kernel
theorem dX10_takesAt_22 : decode cX10_takesAt 22 = .ok (.iaload, 1) := by decide +kernel
theorem dX10_takesAt_23 : decode cX10_takesAt 23 = .ok (.iload_n 3, 1) := by decide +kernel
theorem dX10_takesAt_24 : decode cX10_takesAt 24 = .ok (.invokevirtual 121, 3) := by decide +kernel
theorem dX10_takesAt_27 : decode cX10_takesAt 27 = .ok (.ifCond .eq 7, 3) := by decide +kernel
theorem dX10_takesAt_30 : decode cX10_takesAt 30 = .ok (.iconst 1, 1) := by decide +kernel
theorem dX10_takesAt_31 : decode cX10_takesAt 31 = .ok (.goto 4, 3) := by decide +kernel
theorem dX10_takesAt_34 : decode cX10_takesAt 34 = .ok (.iconst 0, 1) := by decide +kernel
theorem dX10_takesAt_35 : decode cX10_takesAt 35 = .ok (.istore 4, 2) := by decide +kernel
theorem dX10_takesAt_37 : decode cX10_takesAt 37 = .ok (.iload 4, 2) := by decide +kernel
theorem dX10_takesAt_39 : decode cX10_takesAt 39 = .ok (.ifCond .eq 49, 3) := by decide +kernel
theorem dX10_takesAt_42 : decode cX10_takesAt 42 = .ok (.aload_n 0, 1) := by decide +kernel
theorem dX10_takesAt_43 : decode cX10_takesAt 43 = .ok (.getfield 85, 3) := by decide +kernel
theorem dX10_takesAt_46 : decode cX10_takesAt 46 = .ok (.iload_n 2, 1) := by decide +kernel
theorem dX10_takesAt_47 : decode cX10_takesAt 47 = .ok (.laload, 1) := by decide +kernel
theorem dX10_takesAt_48 : decode cX10_takesAt 48 = .ok (.aload_n 0, 1) := by decide +kernel
theorem dX10_takesAt_49 : decode cX10_takesAt 49 = .ok (.getfield 63, 3) := by decide +kernel
theorem dX10_takesAt_52 : decode cX10_takesAt 52 = .ok (.iconst 2, 1) := by decide +kernel
theorem dX10_takesAt_53 : decode cX10_takesAt 53 = .ok (.iload_n 1, 1) := by decide +kernel
theorem dX10_takesAt_54 : decode cX10_takesAt 54 = .ok (.imul, 1) := by decide +kernel
theorem dX10_takesAt_55 : decode cX10_takesAt 55 = .ok (.iload_n 2, 1) := by decide +kernel
theorem dX10_takesAt_56 : decode cX10_takesAt 56 = .ok (.iadd, 1) := by decide +kernel
theorem dX10_takesAt_57 : decode cX10_takesAt 57 = .ok (.iaload, 1) := by decide +kernel
theorem dX10_takesAt_58 : decode cX10_takesAt 58 = .ok (.i2l, 1) := by decide +kernel
theorem dX10_takesAt_59 : decode cX10_takesAt 59 = .ok (.lcmp, 1) := by decide +kernel
theorem dX10_takesAt_60 : decode cX10_takesAt 60 = .ok (.ifCond .lt 28, 3) := by decide +kernel
theorem dX10_takesAt_63 : decode cX10_takesAt 63 = .ok (.aload_n 0, 1) := by decide +kernel
theorem dX10_takesAt_64 : decode cX10_takesAt 64 = .ok (.getfield 85, 3) := by decide +kernel
theorem dX10_takesAt_67 : decode cX10_takesAt 67 = .ok (.iload_n 2, 1) := by decide +kernel
theorem dX10_takesAt_68 : decode cX10_takesAt 68 = .ok (.laload, 1) := by decide +kernel
theorem dX10_takesAt_69 : decode cX10_takesAt 69 = .ok (.aload_n 0, 1) := by decide +kernel
theorem dX10_takesAt_70 : decode cX10_takesAt 70 = .ok (.getfield 66, 3) := by decide +kernel
theorem dX10_takesAt_73 : decode cX10_takesAt 73 = .ok (.iconst 2, 1) := by decide +kernel
theorem dX10_takesAt_74 : decode cX10_takesAt 74 = .ok (.iload_n 1, 1) := by decide +kernel
theorem dX10_takesAt_75 : decode cX10_takesAt 75 = .ok (.imul, 1) := by decide +kernel
theorem dX10_takesAt_76 : decode cX10_takesAt 76 = .ok (.iload_n 2, 1) := by decide +kernel
theorem dX10_takesAt_77 : decode cX10_takesAt 77 = .ok (.iadd, 1) := by decide +kernel
theorem dX10_takesAt_78 : decode cX10_takesAt 78 = .ok (.iaload, 1) := by decide +kernel
theorem dX10_takesAt_79 : decode cX10_takesAt 79 = .ok (.i2l, 1) := by decide +kernel
theorem dX10_takesAt_80 : decode cX10_takesAt 80 = .ok (.lcmp, 1) := by decide +kernel
theorem dX10_takesAt_81 : decode cX10_takesAt 81 = .ok (.ifCond .gt 7, 3) := by decide +kernel
theorem dX10_takesAt_84 : decode cX10_takesAt 84 = .ok (.iconst 1, 1) := by decide +kernel
theorem dX10_takesAt_85 : decode cX10_takesAt 85 = .ok (.goto 4, 3) := by decide +kernel
theorem dX10_takesAt_88 : decode cX10_takesAt 88 = .ok (.iconst 0, 1) := by decide +kernel
theorem dX10_takesAt_89 : decode cX10_takesAt 89 = .ok (.ireturn, 1) := by decide +kernel
set_option maxRecDepth 20000 in
theorem ggX10_takes_X10_takesAt : GoodIn wsX10_takes wsX10_takesAt := goodIn_r _ [7, 8, 9, 10, 11, 12, 13, 14, 15, 6, 16, 17, 18, 19, 20, 21, 22, 23, 24, 25, 26, 27, 28, 29, 30, 31, 32, 33, 34, 35, 36, 37, 38, 39, 40, 41, 42, 43, 44, 45, 46, 47, 48, 49, 50, 51, 52, 53, 54, 55, 56] (by decide +kernel) (by decide +kernel)
set_option maxRecDepth 20000 in
theorem gX10_takes_X10_takesAt : GoodIn wsX10_takes (wsV RX10 165 RX10 yX10_takesAt wsX10_takesAt) := goodIn_app (goodIn_of _ (by decide +kernel)) ggX10_takes_X10_takesAt
theorem dX10_takes_0 : decode cX10_takes 0 = .ok (.iconst 1, 1) := by decide +kernel
theorem dX10_takes_1 : decode cX10_takes 1 = .ok (.istore_n 2, 1) := by decide +kernel
theorem dX10_takes_2 : decode cX10_takes 2 = .ok (.iconst 0, 1) := by decide +kernel
theorem dX10_takes_3 : decode cX10_takes 3 = .ok (.istore_n 3, 1) := by decide +kernel
theorem dX10_takes_4 : decode cX10_takes 4 = .ok (.iload_n 3, 1) := by decide +kernel
theorem dX10_takes_5 : decode cX10_takes 5 = .ok (.aload_n 0, 1) := by decide +kernel
theorem dX10_takes_6 : decode cX10_takes 6 = .ok (.getfield 29, 3) := by decide +kernel
theorem dX10_takes_9 : decode cX10_takes 9 = .ok (.aload_n 0, 1) := by decide +kernel
theorem dX10_takes_10 : decode cX10_takes 10 = .ok (.getfield 45, 3) := by decide +kernel
theorem dX10_takes_13 : decode cX10_takes 13 = .ok (.iload_n 1, 1) := by decide +kernel
theorem dX10_takes_14 : decode cX10_takes 14 = .ok (.iaload, 1) := by decide +kernel
theorem dX10_takes_15 : decode cX10_takes 15 = .ok (.iaload, 1) := by decide +kernel
theorem dX10_takes_16 : decode cX10_takes 16 = .ok (.if_icmp .ge 28, 3) := by decide +kernel
theorem dX10_takes_19 : decode cX10_takes 19 = .ok (.iload_n 2, 1) := by decide +kernel
theorem dX10_takes_20 : decode cX10_takes 20 = .ok (.ifCond .eq 16, 3) := by decide +kernel
theorem dX10_takes_23 : decode cX10_takes 23 = .ok (.aload_n 0, 1) := by decide +kernel
theorem dX10_takes_24 : decode cX10_takes 24 = .ok (.iload_n 1, 1) := by decide +kernel
theorem dX10_takes_25 : decode cX10_takes 25 = .ok (.iload_n 3, 1) := by decide +kernel
theorem dX10_takes_26 : decode cX10_takes 26 = .ok (.invokevirtual 165, 3) := by decide +kernel
theorem dX10_takes_29 : decode cX10_takes 29 = .ok (.ifCond .eq 7, 3) := by decide +kernel
theorem dX10_takes_32 : decode cX10_takes 32 = .ok (.iconst 1, 1) := by decide +kernel
theorem dX10_takes_33 : decode cX10_takes 33 = .ok (.goto 4, 3) := by decide +kernel
theorem dX10_takes_36 : decode cX10_takes 36 = .ok (.iconst 0, 1) := by decide +kernel
theorem dX10_takes_37 : decode cX10_takes 37 = .ok (.istore_n 2, 1) := by decide +kernel
theorem dX10_takes_38 : decode cX10_takes 38 = .ok (.iinc 3 1, 3) := by decide +kernel
theorem dX10_takes_41 : decode cX10_takes 41 = .ok (.goto (-37), 3) := by decide +kernel
theorem dX10_takes_44 : decode cX10_takes 44 = .ok (.iload_n 2, 1) := by decide +kernel
theorem dX10_takes_45 : decode cX10_takes 45 = .ok (.ireturn, 1) := by decide +kernel
set_option maxRecDepth 20000 in
theorem ggX10_isOffered_X10_isLaid : GoodIn wsX10_isOffered wsX10_isLaid := goodIn_r _ [6, 7, 8, 40, 41, 42, 43, 44, 45, 46, 47, 48, 49, 50, 51, 52, 53, 54, 55, 56, 57, 58, 59, 60, 61, 62, 63, 64, 65, 66, 67, 68, 69, 70, 71, 72, 73, 74, 75, 76, 77, 78] (by decide +kernel) (by decide +kernel)
set_option maxRecDepth 20000 in
theorem gX10_isOffered_X10_isLaid : GoodIn wsX10_isOffered (wsV RX10 145 RX10 yX10_isLaid wsX10_isLaid) := goodIn_app (goodIn_of _ (by decide +kernel)) ggX10_isOffered_X10_isLaid
set_option maxRecDepth 20000 in
theorem ggX10_isOffered_X10_takes : GoodIn wsX10_isOffered wsX10_takes := goodIn_r _ [12, 13, 7, 14, 15, 16, 5, 17, 18, 19, 20, 21, 22, 23, 24, 25, 26, 27, 40, 41, 42, 43, 44, 45, 46, 47, 48, 49, 50, 51, 52, 53, 54, 55, 56, 57, 58, 59, 60, 61, 62, 63, 64, 65, 66, 67, 68, 69, 70, 71, 72, 73, 74, 75, 76, 77, 78] (by decide +kernel) (by decide +kernel)
set_option maxRecDepth 20000 in
theorem gX10_isOffered_X10_takes : GoodIn wsX10_isOffered (wsV RX10 168 RX10 yX10_takes wsX10_takes) := goodIn_app (goodIn_of _ (by decide +kernel)) ggX10_isOffered_X10_takes
set_option maxRecDepth 20000 in
theorem ggX10_isOffered_X10_isMore : GoodIn wsX10_isOffered wsX10_isMore := goodIn_r _ [31, 7, 13, 32, 33, 34, 5, 35, 18, 21, 22, 23, 24, 25, 26, 27, 36, 37, 38, 39, 40, 41, 42, 43, 44, 45, 46, 47, 48, 49, 50, 51, 52, 53, 54, 55, 56, 57, 58, 59, 60, 61, 62, 63, 64, 65, 66, 67, 68, 69, 70, 71, 72, 73, 74, 75, 76, 77, 78] (by decide +kernel) (by decide +kernel)
set_option maxRecDepth 20000 in
theorem gX10_isOffered_X10_isMore : GoodIn wsX10_isOffered (wsV RX10 159 RX10 yX10_isMore wsX10_isMore) := goodIn_app (goodIn_of _ (by decide +kernel)) ggX10_isOffered_X10_isMore
theorem dX10_isOffered_0 : decode cX10_isOffered 0 = .ok (.aload_n 0, 1) := by decide +kernel
theorem dX10_isOffered_1 : decode cX10_isOffered 1 = .ok (.iload_n 1, 1) := by decide +kernel
theorem dX10_isOffered_2 : decode cX10_isOffered 2 = .ok (.iload_n 2, 1) := by decide +kernel
theorem dX10_isOffered_3 : decode cX10_isOffered 3 = .ok (.invokevirtual 145, 3) := by decide +kernel
theorem dX10_isOffered_6 : decode cX10_isOffered 6 = .ok (.ifCond .eq 37, 3) := by decide +kernel
theorem dX10_isOffered_9 : decode cX10_isOffered 9 = .ok (.aload_n 0, 1) := by decide +kernel
theorem dX10_isOffered_10 : decode cX10_isOffered 10 = .ok (.getfield 54, 3) := by decide +kernel
theorem dX10_isOffered_13 : decode cX10_isOffered 13 = .ok (.iload_n 1, 1) := by decide +kernel
theorem dX10_isOffered_14 : decode cX10_isOffered 14 = .ok (.baload, 1) := by decide +kernel
theorem dX10_isOffered_15 : decode cX10_isOffered 15 = .ok (.ifCond .ne 28, 3) := by decide +kernel
theorem dX10_isOffered_18 : decode cX10_isOffered 18 = .ok (.aload_n 0, 1) := by decide +kernel
theorem dX10_isOffered_19 : decode cX10_isOffered 19 = .ok (.iload_n 1, 1) := by decide +kernel
theorem dX10_isOffered_20 : decode cX10_isOffered 20 = .ok (.invokevirtual 168, 3) := by decide +kernel
theorem dX10_isOffered_23 : decode cX10_isOffered 23 = .ok (.ifCond .eq 20, 3) := by decide +kernel
theorem dX10_isOffered_26 : decode cX10_isOffered 26 = .ok (.iload_n 3, 1) := by decide +kernel
theorem dX10_isOffered_27 : decode cX10_isOffered 27 = .ok (.ifCond .lt 12, 3) := by decide +kernel
theorem dX10_isOffered_30 : decode cX10_isOffered 30 = .ok (.aload_n 0, 1) := by decide +kernel
theorem dX10_isOffered_31 : decode cX10_isOffered 31 = .ok (.iload_n 3, 1) := by decide +kernel
theorem dX10_isOffered_32 : decode cX10_isOffered 32 = .ok (.iload_n 1, 1) := by decide +kernel
theorem dX10_isOffered_33 : decode cX10_isOffered 33 = .ok (.invokevirtual 159, 3) := by decide +kernel
theorem dX10_isOffered_36 : decode cX10_isOffered 36 = .ok (.ifCond .eq 7, 3) := by decide +kernel
theorem dX10_isOffered_39 : decode cX10_isOffered 39 = .ok (.iconst 1, 1) := by decide +kernel
theorem dX10_isOffered_40 : decode cX10_isOffered 40 = .ok (.goto 4, 3) := by decide +kernel
theorem dX10_isOffered_43 : decode cX10_isOffered 43 = .ok (.iconst 0, 1) := by decide +kernel
theorem dX10_isOffered_44 : decode cX10_isOffered 44 = .ok (.ireturn, 1) := by decide +kernel
set_option maxRecDepth 20000 in
theorem ggX10_offered_X10_isOffered : GoodIn wsX10_offered wsX10_isOffered := goodIn_r _ [6, 7, 8, 9, 10, 5, 11, 12, 13, 14, 15, 16, 17, 18, 19, 20, 21, 22, 23, 24, 25, 26, 27, 28, 29, 30, 31, 32, 33, 34, 35, 36, 37, 38, 39, 40, 41, 42, 43, 44, 45, 46, 47, 48, 49, 50, 51, 52, 53, 54, 55, 56, 57, 58, 59, 60, 61, 62, 63, 64, 65, 66, 67, 68, 69, 70, 71, 72, 73, 74, 75, 76, 77, 78, 79, 80, 81, 82, 83] (by decide +kernel) (by decide +kernel)
set_option maxRecDepth 20000 in
theorem gX10_offered_X10_isOffered : GoodIn wsX10_offered (wsV RX10 171 RX10 yX10_isOffered wsX10_isOffered) := goodIn_app (goodIn_of _ (by decide +kernel)) ggX10_offered_X10_isOffered
theorem dX10_offered_0 : decode cX10_offered 0 = .ok (.iconst 0, 1) := by decide +kernel
theorem dX10_offered_1 : decode cX10_offered 1 = .ok (.istore_n 3, 1) := by decide +kernel
theorem dX10_offered_2 : decode cX10_offered 2 = .ok (.iconst 0, 1) := by decide +kernel
theorem dX10_offered_3 : decode cX10_offered 3 = .ok (.istore 4, 2) := by decide +kernel
theorem dX10_offered_5 : decode cX10_offered 5 = .ok (.iload 4, 2) := by decide +kernel
theorem dX10_offered_7 : decode cX10_offered 7 = .ok (.aload_n 0, 1) := by decide +kernel
theorem dX10_offered_8 : decode cX10_offered 8 = .ok (.getfield 131, 3) := by decide +kernel
theorem dX10_offered_11 : decode cX10_offered 11 = .ok (.if_icmp .ge 28, 3) := by decide +kernel
theorem dX10_offered_14 : decode cX10_offered 14 = .ok (.iload_n 3, 1) := by decide +kernel
theorem dX10_offered_15 : decode cX10_offered 15 = .ok (.aload_n 0, 1) := by decide +kernel
theorem dX10_offered_16 : decode cX10_offered 16 = .ok (.iload 4, 2) := by decide +kernel
theorem dX10_offered_18 : decode cX10_offered 18 = .ok (.iload_n 1, 1) := by decide +kernel
theorem dX10_offered_19 : decode cX10_offered 19 = .ok (.iload_n 2, 1) := by decide +kernel
theorem dX10_offered_20 : decode cX10_offered 20 = .ok (.invokevirtual 171, 3) := by decide +kernel
theorem dX10_offered_23 : decode cX10_offered 23 = .ok (.ifCond .eq 7, 3) := by decide +kernel
theorem dX10_offered_26 : decode cX10_offered 26 = .ok (.iconst 1, 1) := by decide +kernel
theorem dX10_offered_27 : decode cX10_offered 27 = .ok (.goto 4, 3) := by decide +kernel
theorem dX10_offered_30 : decode cX10_offered 30 = .ok (.iconst 0, 1) := by decide +kernel
theorem dX10_offered_31 : decode cX10_offered 31 = .ok (.iadd, 1) := by decide +kernel
theorem dX10_offered_32 : decode cX10_offered 32 = .ok (.istore_n 3, 1) := by decide +kernel
theorem dX10_offered_33 : decode cX10_offered 33 = .ok (.iinc 4 1, 3) := by decide +kernel
theorem dX10_offered_36 : decode cX10_offered 36 = .ok (.goto (-31), 3) := by decide +kernel
theorem dX10_offered_39 : decode cX10_offered 39 = .ok (.iload_n 3, 1) := by decide +kernel
theorem dX10_offered_40 : decode cX10_offered 40 = .ok (.ireturn, 1) := by decide +kernel
set_option maxRecDepth 20000 in
theorem ggX10_chosen_X10_isOffered : GoodIn wsX10_chosen wsX10_isOffered := goodIn_r _ [6, 7, 8, 9, 10, 5, 11, 12, 13, 14, 15, 16, 17, 18, 19, 20, 21, 22, 23, 24, 25, 26, 27, 28, 29, 30, 31, 32, 33, 34, 35, 36, 37, 38, 39, 40, 41, 42, 43, 44, 45, 46, 47, 48, 49, 50, 51, 52, 53, 54, 55, 56, 57, 58, 59, 60, 61, 62, 63, 64, 65, 66, 67, 68, 69, 70, 71, 72, 73, 74, 75, 76, 77, 78, 79, 80, 81, 82, 83] (by decide +kernel) (by decide +kernel)
set_option maxRecDepth 20000 in
theorem gX10_chosen_X10_isOffered : GoodIn wsX10_chosen (wsV RX10 171 RX10 yX10_isOffered wsX10_isOffered) := goodIn_app (goodIn_of _ (by decide +kernel)) ggX10_chosen_X10_isOffered
set_option maxRecDepth 20000 in
theorem ggX10_chosen_X10_isMore : GoodIn wsX10_chosen wsX10_isMore := goodIn_r _ [36, 12, 18, 37, 38, 39, 5, 40, 23, 26, 27, 28, 29, 30, 31, 32, 41, 42, 43, 44, 45, 46, 47, 48, 49, 50, 51, 52, 53, 54, 55, 56, 57, 58, 59, 60, 61, 62, 63, 64, 65, 66, 67, 68, 69, 70, 71, 72, 73, 74, 75, 76, 77, 78, 79, 80, 81, 82, 83] (by decide +kernel) (by decide +kernel)
set_option maxRecDepth 20000 in
theorem gX10_chosen_X10_isMore : GoodIn wsX10_chosen (wsV RX10 159 RX10 yX10_isMore wsX10_isMore) := goodIn_app (goodIn_of _ (by decide +kernel)) ggX10_chosen_X10_isMore
theorem dX10_chosen_0 : decode cX10_chosen 0 = .ok (.iconst (-1), 1) := by decide +kernel
theorem dX10_chosen_1 : decode cX10_chosen 1 = .ok (.istore_n 3, 1) := by decide +kernel
theorem dX10_chosen_2 : decode cX10_chosen 2 = .ok (.iconst 0, 1) := by decide +kernel
theorem dX10_chosen_3 : decode cX10_chosen 3 = .ok (.istore 4, 2) := by decide +kernel
theorem dX10_chosen_5 : decode cX10_chosen 5 = .ok (.iload 4, 2) := by decide +kernel
theorem dX10_chosen_7 : decode cX10_chosen 7 = .ok (.aload_n 0, 1) := by decide +kernel
theorem dX10_chosen_8 : decode cX10_chosen 8 = .ok (.getfield 131, 3) := by decide +kernel
theorem dX10_chosen_11 : decode cX10_chosen 11 = .ok (.if_icmp .ge 94, 3) := by decide +kernel
theorem dX10_chosen_14 : decode cX10_chosen 14 = .ok (.aload_n 0, 1) := by decide +kernel
theorem dX10_chosen_15 : decode cX10_chosen 15 = .ok (.iload 4, 2) := by decide +kernel
theorem dX10_chosen_17 : decode cX10_chosen 17 = .ok (.iload_n 1, 1) := by decide +kernel
theorem dX10_chosen_18 : decode cX10_chosen 18 = .ok (.iload_n 2, 1) := by decide +kernel
theorem dX10_chosen_19 : decode cX10_chosen 19 = .ok (.invokevirtual 171, 3) := by decide +kernel
theorem dX10_chosen_22 : decode cX10_chosen 22 = .ok (.ifCond .eq 77, 3) := by decide +kernel
theorem dX10_chosen_25 : decode cX10_chosen 25 = .ok (.iconst 1, 1) := by decide +kernel
theorem dX10_chosen_26 : decode cX10_chosen 26 = .ok (.istore 5, 2) := by decide +kernel
theorem dX10_chosen_28 : decode cX10_chosen 28 = .ok (.iconst 0, 1) := by decide +kernel
theorem dX10_chosen_29 : decode cX10_chosen 29 = .ok (.istore 6, 2) := by decide +kernel
theorem dX10_chosen_31 : decode cX10_chosen 31 = .ok (.iload 6, 2) := by decide +kernel
theorem dX10_chosen_33 : decode cX10_chosen 33 = .ok (.aload_n 0, 1) := by decide +kernel
theorem dX10_chosen_34 : decode cX10_chosen 34 = .ok (.getfield 131, 3) := by decide +kernel
theorem dX10_chosen_37 : decode cX10_chosen 37 = .ok (.if_icmp .ge 50, 3) := by decide +kernel
theorem dX10_chosen_40 : decode cX10_chosen 40 = .ok (.iload 5, 2) := by decide +kernel
theorem dX10_chosen_42 : decode cX10_chosen 42 = .ok (.ifCond .eq 36, 3) := by decide +kernel
theorem dX10_chosen_45 : decode cX10_chosen 45 = .ok (.iload 6, 2) := by decide +kernel
theorem dX10_chosen_47 : decode cX10_chosen 47 = .ok (.iload 4, 2) := by decide +kernel
theorem dX10_chosen_49 : decode cX10_chosen 49 = .ok (.if_icmp .eq 25, 3) := by decide +kernel
theorem dX10_chosen_52 : decode cX10_chosen 52 = .ok (.aload_n 0, 1) := by decide +kernel
theorem dX10_chosen_53 : decode cX10_chosen 53 = .ok (.iload 6, 2) := by decide +kernel
theorem dX10_chosen_55 : decode cX10_chosen 55 = .ok (.iload_n 1, 1) := by decide +kernel
theorem dX10_chosen_56 : decode cX10_chosen 56 = .ok (.iload_n 2, 1) := by decide +kernel
theorem dX10_chosen_57 : decode cX10_chosen 57 = .ok (.invokevirtual 171, 3) := by decide +kernel
theorem dX10_chosen_60 : decode cX10_chosen 60 = .ok (.ifCond .eq 14, 3) := by decide +kernel
theorem dX10_chosen_63 : decode cX10_chosen 63 = .ok (.aload_n 0, 1) := by decide +kernel
theorem dX10_chosen_64 : decode cX10_chosen 64 = .ok (.iload 4, 2) := by decide +kernel
theorem dX10_chosen_66 : decode cX10_chosen 66 = .ok (.iload 6, 2) := by decide +kernel
theorem dX10_chosen_68 : decode cX10_chosen 68 = .ok (.invokevirtual 159, 3) := by decide +kernel
theorem dX10_chosen_71 : decode cX10_chosen 71 = .ok (.ifCond .eq 7, 3) := by decide +kernel
theorem dX10_chosen_74 : decode cX10_chosen 74 = .ok (.iconst 1, 1) := by decide +kernel
theorem dX10_chosen_75 : decode cX10_chosen 75 = .ok (.goto 4, 3) := by decide +kernel
theorem dX10_chosen_78 : decode cX10_chosen 78 = .ok (.iconst 0, 1) := by decide +kernel
theorem dX10_chosen_79 : decode cX10_chosen 79 = .ok (.istore 5, 2) := by decide +kernel
theorem dX10_chosen_81 : decode cX10_chosen 81 = .ok (.iinc 6 1, 3) := by decide +kernel
theorem dX10_chosen_84 : decode cX10_chosen 84 = .ok (.goto (-53), 3) := by decide +kernel
theorem dX10_chosen_87 : decode cX10_chosen 87 = .ok (.iload 5, 2) := by decide +kernel
theorem dX10_chosen_89 : decode cX10_chosen 89 = .ok (.ifCond .eq 8, 3) := by decide +kernel
theorem dX10_chosen_92 : decode cX10_chosen 92 = .ok (.iload 4, 2) := by decide +kernel
theorem dX10_chosen_94 : decode cX10_chosen 94 = .ok (.goto 4, 3) := by decide +kernel
theorem dX10_chosen_97 : decode cX10_chosen 97 = .ok (.iload_n 3, 1) := by decide +kernel
theorem dX10_chosen_98 : decode cX10_chosen 98 = .ok (.istore_n 3, 1) := by decide +kernel
theorem dX10_chosen_99 : decode cX10_chosen 99 = .ok (.iinc 4 1, 3) := by decide +kernel
theorem dX10_chosen_102 : decode cX10_chosen 102 = .ok (.goto (-97), 3) := by decide +kernel
theorem dX10_chosen_105 : decode cX10_chosen 105 = .ok (.iload_n 3, 1) := by decide +kernel
theorem dX10_chosen_106 : decode cX10_chosen 106 = .ok (.ireturn, 1) := by decide +kernel
theorem dX10_tellRow_0 : decode cX10_tellRow 0 = .ok (.iconst 1, 1) := by decide +kernel
theorem dX10_tellRow_1 : decode cX10_tellRow 1 = .ok (.istore_n 2, 1) := by decide +kernel
theorem dX10_tellRow_2 : decode cX10_tellRow 2 = .ok (.iconst 0, 1) := by decide +kernel
theorem dX10_tellRow_3 : decode cX10_tellRow 3 = .ok (.istore_n 3, 1) := by decide +kernel
theorem dX10_tellRow_4 : decode cX10_tellRow 4 = .ok (.iload_n 3, 1) := by decide +kernel
theorem dX10_tellRow_5 : decode cX10_tellRow 5 = .ok (.aload_n 0, 1) := by decide +kernel
theorem dX10_tellRow_6 : decode cX10_tellRow 6 = .ok (.getfield 29, 3) := by decide +kernel
theorem dX10_tellRow_9 : decode cX10_tellRow 9 = .ok (.iload_n 1, 1) := by decide +kernel
theorem dX10_tellRow_10 : decode cX10_tellRow 10 = .ok (.iaload, 1) := by decide +kernel
theorem dX10_tellRow_11 : decode cX10_tellRow 11 = .ok (.if_icmp .ge 89, 3) := by decide +kernel
theorem dX10_tellRow_14 : decode cX10_tellRow 14 = .ok (.iload_n 2, 1) := by decide +kernel
theorem dX10_tellRow_15 : decode cX10_tellRow 15 = .ok (.ifCond .eq 16, 3) := by decide +kernel
theorem dX10_tellRow_18 : decode cX10_tellRow 18 = .ok (.aload_n 0, 1) := by decide +kernel
theorem dX10_tellRow_19 : decode cX10_tellRow 19 = .ok (.getfield 72, 3) := by decide +kernel
theorem dX10_tellRow_22 : decode cX10_tellRow 22 = .ok (.iload_n 3, 1) := by decide +kernel
theorem dX10_tellRow_23 : decode cX10_tellRow 23 = .ok (.iaload, 1) := by decide +kernel
theorem dX10_tellRow_24 : decode cX10_tellRow 24 = .ok (.ifCond .lt 7, 3) := by decide +kernel
theorem dX10_tellRow_27 : decode cX10_tellRow 27 = .ok (.iconst 1, 1) := by decide +kernel
theorem dX10_tellRow_28 : decode cX10_tellRow 28 = .ok (.goto 4, 3) := by decide +kernel
theorem dX10_tellRow_31 : decode cX10_tellRow 31 = .ok (.iconst 0, 1) := by decide +kernel
theorem dX10_tellRow_32 : decode cX10_tellRow 32 = .ok (.istore_n 2, 1) := by decide +kernel
theorem dX10_tellRow_33 : decode cX10_tellRow 33 = .ok (.aload_n 0, 1) := by decide +kernel
theorem dX10_tellRow_34 : decode cX10_tellRow 34 = .ok (.getfield 82, 3) := by decide +kernel
theorem dX10_tellRow_37 : decode cX10_tellRow 37 = .ok (.iload_n 3, 1) := by decide +kernel
theorem dX10_tellRow_38 : decode cX10_tellRow 38 = .ok (.aload_n 0, 1) := by decide +kernel
theorem dX10_tellRow_39 : decode cX10_tellRow 39 = .ok (.getfield 72, 3) := by decide +kernel
theorem dX10_tellRow_42 : decode cX10_tellRow 42 = .ok (.iload_n 3, 1) := by decide +kernel
theorem dX10_tellRow_43 : decode cX10_tellRow 43 = .ok (.iaload, 1) := by decide +kernel
theorem dX10_tellRow_44 : decode cX10_tellRow 44 = .ok (.ifCond .lt 17, 3) := by decide +kernel
theorem dX10_tellRow_47 : decode cX10_tellRow 47 = .ok (.aload_n 0, 1) := by decide +kernel
theorem dX10_tellRow_48 : decode cX10_tellRow 48 = .ok (.getfield 23, 3) := by decide +kernel
theorem dX10_tellRow_51 : decode cX10_tellRow 51 = .ok (.aload_n 0, 1) := by decide +kernel
theorem dX10_tellRow_52 : decode cX10_tellRow 52 = .ok (.getfield 72, 3) := by decide +kernel
theorem dX10_tellRow_55 : decode cX10_tellRow 55 = .ok (.iload_n 3, 1) := by decide +kernel
theorem dX10_tellRow_56 : decode cX10_tellRow 56 = .ok (.iaload, 1) := by decide +kernel
theorem dX10_tellRow_57 : decode cX10_tellRow 57 = .ok (.iaload, 1) := by decide +kernel
theorem dX10_tellRow_58 : decode cX10_tellRow 58 = .ok (.goto 4, 3) := by decide +kernel
theorem dX10_tellRow_61 : decode cX10_tellRow 61 = .ok (.iconst 0, 1) := by decide +kernel
theorem dX10_tellRow_62 : decode cX10_tellRow 62 = .ok (.iastore, 1) := by decide +kernel
theorem dX10_tellRow_63 : decode cX10_tellRow 63 = .ok (.aload_n 0, 1) := by decide +kernel
theorem dX10_tellRow_64 : decode cX10_tellRow 64 = .ok (.getfield 85, 3) := by decide +kernel
theorem dX10_tellRow_67 : decode cX10_tellRow 67 = .ok (.iload_n 3, 1) := by decide +kernel
theorem dX10_tellRow_68 : decode cX10_tellRow 68 = .ok (.aload_n 0, 1) := by decide +kernel
theorem dX10_tellRow_69 : decode cX10_tellRow 69 = .ok (.getfield 72, 3) := by decide +kernel
theorem dX10_tellRow_72 : decode cX10_tellRow 72 = .ok (.iload_n 3, 1) := by decide +kernel
theorem dX10_tellRow_73 : decode cX10_tellRow 73 = .ok (.iaload, 1) := by decide +kernel
theorem dX10_tellRow_74 : decode cX10_tellRow 74 = .ok (.ifCond .lt 18, 3) := by decide +kernel
theorem dX10_tellRow_77 : decode cX10_tellRow 77 = .ok (.aload_n 0, 1) := by decide +kernel
theorem dX10_tellRow_78 : decode cX10_tellRow 78 = .ok (.getfield 26, 3) := by decide +kernel
theorem dX10_tellRow_81 : decode cX10_tellRow 81 = .ok (.aload_n 0, 1) := by decide +kernel
theorem dX10_tellRow_82 : decode cX10_tellRow 82 = .ok (.getfield 72, 3) := by decide +kernel
theorem dX10_tellRow_85 : decode cX10_tellRow 85 = .ok (.iload_n 3, 1) := by decide +kernel
theorem dX10_tellRow_86 : decode cX10_tellRow 86 = .ok (.iaload, 1) := by decide +kernel
theorem dX10_tellRow_87 : decode cX10_tellRow 87 = .ok (.iaload, 1) := by decide +kernel
theorem dX10_tellRow_88 : decode cX10_tellRow 88 = .ok (.i2l, 1) := by decide +kernel
theorem dX10_tellRow_89 : decode cX10_tellRow 89 = .ok (.goto 4, 3) := by decide +kernel
theorem dX10_tellRow_92 : decode cX10_tellRow 92 = .ok (.lconst 0, 1) := by decide +kernel
theorem dX10_tellRow_93 : decode cX10_tellRow 93 = .ok (.lastore, 1) := by decide +kernel
theorem dX10_tellRow_94 : decode cX10_tellRow 94 = .ok (.iinc 3 1, 3) := by decide +kernel
theorem dX10_tellRow_97 : decode cX10_tellRow 97 = .ok (.goto (-93), 3) := by decide +kernel
theorem dX10_tellRow_100 : decode cX10_tellRow 100 = .ok (.iload_n 2, 1) := by decide +kernel
theorem dX10_tellRow_101 : decode cX10_tellRow 101 = .ok (.ireturn, 1) := by decide +kernel
set_option maxRecDepth 20000 in
theorem ggX10_piece_X10_isLaid : GoodIn wsX10_piece wsX10_isLaid := goodIn_r _ [10, 11, 12, 13, 14, 15, 16, 17, 18, 19, 20, 21, 22, 23, 24, 25, 26, 27, 28, 29, 30, 31, 32, 33, 34, 35, 36, 37, 38, 39, 40, 41, 42, 43, 44, 45, 46, 47, 48, 49, 50, 51] (by decide +kernel) (by decide +kernel)
set_option maxRecDepth 20000 in
theorem gX10_piece_X10_isLaid : GoodIn wsX10_piece (wsV RX10 145 RX10 yX10_isLaid wsX10_isLaid) := goodIn_app (goodIn_of _ (by decide +kernel)) ggX10_piece_X10_isLaid
theorem dX10_piece_0 : decode cX10_piece 0 = .ok (.ldc2_w 174, 3) := by decide +kernel
theorem dX10_piece_3 : decode cX10_piece 3 = .ok (.lstore_n 3, 1) := by decide +kernel
theorem dX10_piece_4 : decode cX10_piece 4 = .ok (.iconst 0, 1) := by decide +kernel
theorem dX10_piece_5 : decode cX10_piece 5 = .ok (.istore 5, 2) := by decide +kernel
theorem dX10_piece_7 : decode cX10_piece 7 = .ok (.iload 5, 2) := by decide +kernel
theorem dX10_piece_9 : decode cX10_piece 9 = .ok (.aload_n 0, 1) := by decide +kernel
theorem dX10_piece_10 : decode cX10_piece 10 = .ok (.getfield 131, 3) := by decide +kernel
theorem dX10_piece_13 : decode cX10_piece 13 = .ok (.if_icmp .ge 101, 3) := by decide +kernel
theorem dX10_piece_16 : decode cX10_piece 16 = .ok (.aload_n 0, 1) := by decide +kernel
theorem dX10_piece_17 : decode cX10_piece 17 = .ok (.iload 5, 2) := by decide +kernel
theorem dX10_piece_19 : decode cX10_piece 19 = .ok (.iload_n 1, 1) := by decide +kernel
theorem dX10_piece_20 : decode cX10_piece 20 = .ok (.invokevirtual 145, 3) := by decide +kernel
theorem dX10_piece_23 : decode cX10_piece 23 = .ok (.ifCond .eq 85, 3) := by decide +kernel
theorem dX10_piece_26 : decode cX10_piece 26 = .ok (.aload_n 0, 1) := by decide +kernel
theorem dX10_piece_27 : decode cX10_piece 27 = .ok (.getfield 63, 3) := by decide +kernel
theorem dX10_piece_30 : decode cX10_piece 30 = .ok (.iconst 2, 1) := by decide +kernel
theorem dX10_piece_31 : decode cX10_piece 31 = .ok (.iload 5, 2) := by decide +kernel
theorem dX10_piece_33 : decode cX10_piece 33 = .ok (.imul, 1) := by decide +kernel
theorem dX10_piece_34 : decode cX10_piece 34 = .ok (.iload_n 2, 1) := by decide +kernel
theorem dX10_piece_35 : decode cX10_piece 35 = .ok (.iadd, 1) := by decide +kernel
theorem dX10_piece_36 : decode cX10_piece 36 = .ok (.iaload, 1) := by decide +kernel
theorem dX10_piece_37 : decode cX10_piece 37 = .ok (.i2l, 1) := by decide +kernel
theorem dX10_piece_38 : decode cX10_piece 38 = .ok (.lstore 6, 2) := by decide +kernel
theorem dX10_piece_40 : decode cX10_piece 40 = .ok (.aload_n 0, 1) := by decide +kernel
theorem dX10_piece_41 : decode cX10_piece 41 = .ok (.getfield 66, 3) := by decide +kernel
theorem dX10_piece_44 : decode cX10_piece 44 = .ok (.iconst 2, 1) := by decide +kernel
theorem dX10_piece_45 : decode cX10_piece 45 = .ok (.iload 5, 2) := by decide +kernel
theorem dX10_piece_47 : decode cX10_piece 47 = .ok (.imul, 1) := by decide +kernel
theorem dX10_piece_48 : decode cX10_piece 48 = .ok (.iload_n 2, 1) := by decide +kernel
theorem dX10_piece_49 : decode cX10_piece 49 = .ok (.iadd, 1) := by decide +kernel
theorem dX10_piece_50 : decode cX10_piece 50 = .ok (.iaload, 1) := by decide +kernel
theorem dX10_piece_51 : decode cX10_piece 51 = .ok (.i2l, 1) := by decide +kernel
theorem dX10_piece_52 : decode cX10_piece 52 = .ok (.lconst 1, 1) := by decide +kernel
theorem dX10_piece_53 : decode cX10_piece 53 = .ok (.ladd, 1) := by decide +kernel
theorem dX10_piece_54 : decode cX10_piece 54 = .ok (.lstore 8, 2) := by decide +kernel
theorem dX10_piece_56 : decode cX10_piece 56 = .ok (.lload 6, 2) := by decide +kernel
theorem dX10_piece_58 : decode cX10_piece 58 = .ok (.aload_n 0, 1) := by decide +kernel
theorem dX10_piece_59 : decode cX10_piece 59 = .ok (.getfield 85, 3) := by decide +kernel
theorem dX10_piece_62 : decode cX10_piece 62 = .ok (.iload_n 2, 1) := by decide +kernel
theorem dX10_piece_63 : decode cX10_piece 63 = .ok (.laload, 1) := by decide +kernel
theorem dX10_piece_64 : decode cX10_piece 64 = .ok (.lcmp, 1) := by decide +kernel
theorem dX10_piece_65 : decode cX10_piece 65 = .ok (.ifCond .le 15, 3) := by decide +kernel
theorem dX10_piece_68 : decode cX10_piece 68 = .ok (.lload 6, 2) := by decide +kernel
theorem dX10_piece_70 : decode cX10_piece 70 = .ok (.lload_n 3, 1) := by decide +kernel
theorem dX10_piece_71 : decode cX10_piece 71 = .ok (.lcmp, 1) := by decide +kernel
theorem dX10_piece_72 : decode cX10_piece 72 = .ok (.ifCond .ge 8, 3) := by decide +kernel
theorem dX10_piece_75 : decode cX10_piece 75 = .ok (.lload 6, 2) := by decide +kernel
theorem dX10_piece_77 : decode cX10_piece 77 = .ok (.goto 4, 3) := by decide +kernel
theorem dX10_piece_80 : decode cX10_piece 80 = .ok (.lload_n 3, 1) := by decide +kernel
theorem dX10_piece_81 : decode cX10_piece 81 = .ok (.lstore_n 3, 1) := by decide +kernel
theorem dX10_piece_82 : decode cX10_piece 82 = .ok (.lload 8, 2) := by decide +kernel
theorem dX10_piece_84 : decode cX10_piece 84 = .ok (.aload_n 0, 1) := by decide +kernel
theorem dX10_piece_85 : decode cX10_piece 85 = .ok (.getfield 85, 3) := by decide +kernel
theorem dX10_piece_88 : decode cX10_piece 88 = .ok (.iload_n 2, 1) := by decide +kernel
theorem dX10_piece_89 : decode cX10_piece 89 = .ok (.laload, 1) := by decide +kernel
theorem dX10_piece_90 : decode cX10_piece 90 = .ok (.lcmp, 1) := by decide +kernel
theorem dX10_piece_91 : decode cX10_piece 91 = .ok (.ifCond .le 15, 3) := by decide +kernel
theorem dX10_piece_94 : decode cX10_piece 94 = .ok (.lload 8, 2) := by decide +kernel
theorem dX10_piece_96 : decode cX10_piece 96 = .ok (.lload_n 3, 1) := by decide +kernel
theorem dX10_piece_97 : decode cX10_piece 97 = .ok (.lcmp, 1) := by decide +kernel
theorem dX10_piece_98 : decode cX10_piece 98 = .ok (.ifCond .ge 8, 3) := by decide +kernel
theorem dX10_piece_101 : decode cX10_piece 101 = .ok (.lload 8, 2) := by decide +kernel
theorem dX10_piece_103 : decode cX10_piece 103 = .ok (.goto 4, 3) := by decide +kernel
theorem dX10_piece_106 : decode cX10_piece 106 = .ok (.lload_n 3, 1) := by decide +kernel
theorem dX10_piece_107 : decode cX10_piece 107 = .ok (.lstore_n 3, 1) := by decide +kernel
theorem dX10_piece_108 : decode cX10_piece 108 = .ok (.iinc 5 1, 3) := by decide +kernel
theorem dX10_piece_111 : decode cX10_piece 111 = .ok (.goto (-104), 3) := by decide +kernel
theorem dX10_piece_114 : decode cX10_piece 114 = .ok (.lload_n 3, 1) := by decide +kernel
theorem dX10_piece_115 : decode cX10_piece 115 = .ok (.lreturn, 1) := by decide +kernel
set_option maxRecDepth 20000 in
theorem ggX10_remember_X10_piece : GoodIn wsX10_remember wsX10_piece := goodIn_r _ [10, 11, 12, 13, 14, 15, 16, 17, 18, 9, 19, 20, 21, 22, 23, 24, 25, 26, 27, 28, 29, 30, 31, 32, 33, 34, 35, 36, 37, 38, 39, 40, 41, 42, 43, 44, 45, 46, 47, 48, 49, 50, 51, 52, 53, 54, 55, 56, 57, 58, 59, 60] (by decide +kernel) (by decide +kernel)
set_option maxRecDepth 20000 in
theorem gX10_remember_X10_piece : GoodIn wsX10_remember (wsV RX10 176 RX10 yX10_piece wsX10_piece) := goodIn_app (goodIn_of _ (by decide +kernel)) ggX10_remember_X10_piece
theorem dX10_remember_0 : decode cX10_remember 0 = .ok (.aload_n 0, 1) := by decide +kernel
theorem dX10_remember_1 : decode cX10_remember 1 = .ok (.getfield 82, 3) := by decide +kernel
theorem dX10_remember_4 : decode cX10_remember 4 = .ok (.iconst 0, 1) := by decide +kernel
theorem dX10_remember_5 : decode cX10_remember 5 = .ok (.iaload, 1) := by decide +kernel
theorem dX10_remember_6 : decode cX10_remember 6 = .ok (.i2l, 1) := by decide +kernel
theorem dX10_remember_7 : decode cX10_remember 7 = .ok (.lstore_n 2, 1) := by decide +kernel
theorem dX10_remember_8 : decode cX10_remember 8 = .ok (.aload_n 0, 1) := by decide +kernel
theorem dX10_remember_9 : decode cX10_remember 9 = .ok (.iload_n 1, 1) := by decide +kernel
theorem dX10_remember_10 : decode cX10_remember 10 = .ok (.iconst 0, 1) := by decide +kernel
theorem dX10_remember_11 : decode cX10_remember 11 = .ok (.invokevirtual 176, 3) := by decide +kernel
theorem dX10_remember_14 : decode cX10_remember 14 = .ok (.lstore 4, 2) := by decide +kernel
theorem dX10_remember_16 : decode cX10_remember 16 = .ok (.aload_n 0, 1) := by decide +kernel
theorem dX10_remember_17 : decode cX10_remember 17 = .ok (.getfield 29, 3) := by decide +kernel
theorem dX10_remember_20 : decode cX10_remember 20 = .ok (.iload_n 1, 1) := by decide +kernel
theorem dX10_remember_21 : decode cX10_remember 21 = .ok (.iaload, 1) := by decide +kernel
theorem dX10_remember_22 : decode cX10_remember 22 = .ok (.iconst 2, 1) := by decide +kernel
theorem dX10_remember_23 : decode cX10_remember 23 = .ok (.if_icmp .ne 13, 3) := by decide +kernel
theorem dX10_remember_26 : decode cX10_remember 26 = .ok (.aload_n 0, 1) := by decide +kernel
theorem dX10_remember_27 : decode cX10_remember 27 = .ok (.getfield 82, 3) := by decide +kernel
theorem dX10_remember_30 : decode cX10_remember 30 = .ok (.iconst 1, 1) := by decide +kernel
theorem dX10_remember_31 : decode cX10_remember 31 = .ok (.iaload, 1) := by decide +kernel
theorem dX10_remember_32 : decode cX10_remember 32 = .ok (.i2l, 1) := by decide +kernel
theorem dX10_remember_33 : decode cX10_remember 33 = .ok (.goto 4, 3) := by decide +kernel
theorem dX10_remember_36 : decode cX10_remember 36 = .ok (.lconst 0, 1) := by decide +kernel
theorem dX10_remember_37 : decode cX10_remember 37 = .ok (.lstore 6, 2) := by decide +kernel
theorem dX10_remember_39 : decode cX10_remember 39 = .ok (.aload_n 0, 1) := by decide +kernel
theorem dX10_remember_40 : decode cX10_remember 40 = .ok (.getfield 29, 3) := by decide +kernel
theorem dX10_remember_43 : decode cX10_remember 43 = .ok (.iload_n 1, 1) := by decide +kernel
theorem dX10_remember_44 : decode cX10_remember 44 = .ok (.iaload, 1) := by decide +kernel
theorem dX10_remember_45 : decode cX10_remember 45 = .ok (.iconst 2, 1) := by decide +kernel
theorem dX10_remember_46 : decode cX10_remember 46 = .ok (.if_icmp .ne 12, 3) := by decide +kernel
theorem dX10_remember_49 : decode cX10_remember 49 = .ok (.aload_n 0, 1) := by decide +kernel
theorem dX10_remember_50 : decode cX10_remember 50 = .ok (.iload_n 1, 1) := by decide +kernel
theorem dX10_remember_51 : decode cX10_remember 51 = .ok (.iconst 1, 1) := by decide +kernel
theorem dX10_remember_52 : decode cX10_remember 52 = .ok (.invokevirtual 176, 3) := by decide +kernel
theorem dX10_remember_55 : decode cX10_remember 55 = .ok (.goto 4, 3) := by decide +kernel
theorem dX10_remember_58 : decode cX10_remember 58 = .ok (.lconst 0, 1) := by decide +kernel
theorem dX10_remember_59 : decode cX10_remember 59 = .ok (.lstore 8, 2) := by decide +kernel
theorem dX10_remember_61 : decode cX10_remember 61 = .ok (.bipush 64, 2) := by decide +kernel
theorem dX10_remember_63 : decode cX10_remember 63 = .ok (.iload_n 1, 1) := by decide +kernel
theorem dX10_remember_64 : decode cX10_remember 64 = .ok (.imul, 1) := by decide +kernel
theorem dX10_remember_65 : decode cX10_remember 65 = .ok (.istore 10, 2) := by decide +kernel
theorem dX10_remember_67 : decode cX10_remember 67 = .ok (.iconst 0, 1) := by decide +kernel
theorem dX10_remember_68 : decode cX10_remember 68 = .ok (.istore 11, 2) := by decide +kernel
theorem dX10_remember_70 : decode cX10_remember 70 = .ok (.iload 11, 2) := by decide +kernel
theorem dX10_remember_72 : decode cX10_remember 72 = .ok (.aload_n 0, 1) := by decide +kernel
theorem dX10_remember_73 : decode cX10_remember 73 = .ok (.getfield 42, 3) := by decide +kernel
theorem dX10_remember_76 : decode cX10_remember 76 = .ok (.iload_n 1, 1) := by decide +kernel
theorem dX10_remember_77 : decode cX10_remember 77 = .ok (.iaload, 1) := by decide +kernel
theorem dX10_remember_78 : decode cX10_remember 78 = .ok (.if_icmp .ge 86, 3) := by decide +kernel
theorem dX10_remember_81 : decode cX10_remember 81 = .ok (.aload_n 0, 1) := by decide +kernel
theorem dX10_remember_82 : decode cX10_remember 82 = .ok (.getfield 38, 3) := by decide +kernel
theorem dX10_remember_85 : decode cX10_remember 85 = .ok (.iload 10, 2) := by decide +kernel
theorem dX10_remember_87 : decode cX10_remember 87 = .ok (.iconst 4, 1) := by decide +kernel
theorem dX10_remember_88 : decode cX10_remember 88 = .ok (.iload 11, 2) := by decide +kernel
theorem dX10_remember_90 : decode cX10_remember 90 = .ok (.imul, 1) := by decide +kernel
theorem dX10_remember_91 : decode cX10_remember 91 = .ok (.iadd, 1) := by decide +kernel
theorem dX10_remember_92 : decode cX10_remember 92 = .ok (.laload, 1) := by decide +kernel
theorem dX10_remember_93 : decode cX10_remember 93 = .ok (.lload_n 2, 1) := by decide +kernel
theorem dX10_remember_94 : decode cX10_remember 94 = .ok (.lcmp, 1) := by decide +kernel
theorem dX10_remember_95 : decode cX10_remember 95 = .ok (.ifCond .ne 63, 3) := by decide +kernel
theorem dX10_remember_98 : decode cX10_remember 98 = .ok (.aload_n 0, 1) := by decide +kernel
theorem dX10_remember_99 : decode cX10_remember 99 = .ok (.getfield 38, 3) := by decide +kernel
theorem dX10_remember_102 : decode cX10_remember 102 = .ok (.iload 10, 2) := by decide +kernel
theorem dX10_remember_104 : decode cX10_remember 104 = .ok (.iconst 4, 1) := by decide +kernel
theorem dX10_remember_105 : decode cX10_remember 105 = .ok (.iload 11, 2) := by decide +kernel
theorem dX10_remember_107 : decode cX10_remember 107 = .ok (.imul, 1) := by decide +kernel
theorem dX10_remember_108 : decode cX10_remember 108 = .ok (.iadd, 1) := by decide +kernel
theorem dX10_remember_109 : decode cX10_remember 109 = .ok (.iconst 1, 1) := by decide +kernel
theorem dX10_remember_110 : decode cX10_remember 110 = .ok (.iadd, 1) := by decide +kernel
theorem dX10_remember_111 : decode cX10_remember 111 = .ok (.laload, 1) := by decide +kernel
theorem dX10_remember_112 : decode cX10_remember 112 = .ok (.lload 4, 2) := by decide +kernel
theorem dX10_remember_114 : decode cX10_remember 114 = .ok (.lcmp, 1) := by decide +kernel
theorem dX10_remember_115 : decode cX10_remember 115 = .ok (.ifCond .ne 43, 3) := by decide +kernel
theorem dX10_remember_118 : decode cX10_remember 118 = .ok (.aload_n 0, 1) := by decide +kernel
theorem dX10_remember_119 : decode cX10_remember 119 = .ok (.getfield 38, 3) := by decide +kernel
theorem dX10_remember_122 : decode cX10_remember 122 = .ok (.iload 10, 2) := by decide +kernel
theorem dX10_remember_124 : decode cX10_remember 124 = .ok (.iconst 4, 1) := by decide +kernel
theorem dX10_remember_125 : decode cX10_remember 125 = .ok (.iload 11, 2) := by decide +kernel
theorem dX10_remember_127 : decode cX10_remember 127 = .ok (.imul, 1) := by decide +kernel
theorem dX10_remember_128 : decode cX10_remember 128 = .ok (.iadd, 1) := by decide +kernel
theorem dX10_remember_129 : decode cX10_remember 129 = .ok (.iconst 2, 1) := by decide +kernel
theorem dX10_remember_130 : decode cX10_remember 130 = .ok (.iadd, 1) := by decide +kernel
theorem dX10_remember_131 : decode cX10_remember 131 = .ok (.laload, 1) := by decide +kernel
theorem dX10_remember_132 : decode cX10_remember 132 = .ok (.lload 6, 2) := by decide +kernel
theorem dX10_remember_134 : decode cX10_remember 134 = .ok (.lcmp, 1) := by decide +kernel
theorem dX10_remember_135 : decode cX10_remember 135 = .ok (.ifCond .ne 23, 3) := by decide +kernel
theorem dX10_remember_138 : decode cX10_remember 138 = .ok (.aload_n 0, 1) := by decide +kernel
theorem dX10_remember_139 : decode cX10_remember 139 = .ok (.getfield 38, 3) := by decide +kernel
theorem dX10_remember_142 : decode cX10_remember 142 = .ok (.iload 10, 2) := by decide +kernel
theorem dX10_remember_144 : decode cX10_remember 144 = .ok (.iconst 4, 1) := by decide +kernel
theorem dX10_remember_145 : decode cX10_remember 145 = .ok (.iload 11, 2) := by decide +kernel
theorem dX10_remember_147 : decode cX10_remember 147 = .ok (.imul, 1) := by decide +kernel
theorem dX10_remember_148 : decode cX10_remember 148 = .ok (.iadd, 1) := by decide +kernel
theorem dX10_remember_149 : decode cX10_remember 149 = .ok (.iconst 3, 1) := by decide +kernel
theorem dX10_remember_150 : decode cX10_remember 150 = .ok (.iadd, 1) := by decide +kernel
theorem dX10_remember_151 : decode cX10_remember 151 = .ok (.laload, 1) := by decide +kernel
theorem dX10_remember_152 : decode cX10_remember 152 = .ok (.lload 8, 2) := by decide +kernel
theorem dX10_remember_154 : decode cX10_remember 154 = .ok (.lcmp, 1) := by decide +kernel
theorem dX10_remember_155 : decode cX10_remember 155 = .ok (.ifCond .eq 9, 3) := by decide +kernel
theorem dX10_remember_158 : decode cX10_remember 158 = .ok (.iinc 11 1, 3) := by decide +kernel
theorem dX10_remember_161 : decode cX10_remember 161 = .ok (.goto (-91), 3) := by decide +kernel
theorem dX10_remember_164 : decode cX10_remember 164 = .ok (.aload_n 0, 1) := by decide +kernel
theorem dX10_remember_165 : decode cX10_remember 165 = .ok (.getfield 35, 3) := by decide +kernel
theorem dX10_remember_168 : decode cX10_remember 168 = .ok (.iload_n 1, 1) := by decide +kernel
theorem dX10_remember_169 : decode cX10_remember 169 = .ok (.dup2, 1) := by decide +kernel
theorem dX10_remember_170 : decode cX10_remember 170 = .ok (.iaload, 1) := by decide +kernel
theorem dX10_remember_171 : decode cX10_remember 171 = .ok (.iload 11, 2) := by decide +kernel
theorem dX10_remember_173 : decode cX10_remember 173 = .ok (.aload_n 0, 1) := by decide +kernel
theorem dX10_remember_174 : decode cX10_remember 174 = .ok (.getfield 42, 3) := by decide +kernel
theorem dX10_remember_177 : decode cX10_remember 177 = .ok (.iload_n 1, 1) := by decide +kernel
theorem dX10_remember_178 : decode cX10_remember 178 = .ok (.iaload, 1) := by decide +kernel
theorem dX10_remember_179 : decode cX10_remember 179 = .ok (.if_icmp .ge 7, 3) := by decide +kernel
theorem dX10_remember_182 : decode cX10_remember 182 = .ok (.iconst 1, 1) := by decide +kernel
theorem dX10_remember_183 : decode cX10_remember 183 = .ok (.goto 4, 3) := by decide +kernel
theorem dX10_remember_186 : decode cX10_remember 186 = .ok (.iconst 0, 1) := by decide +kernel
theorem dX10_remember_187 : decode cX10_remember 187 = .ok (.iadd, 1) := by decide +kernel
theorem dX10_remember_188 : decode cX10_remember 188 = .ok (.iastore, 1) := by decide +kernel
theorem dX10_remember_189 : decode cX10_remember 189 = .ok (.iload 11, 2) := by decide +kernel
theorem dX10_remember_191 : decode cX10_remember 191 = .ok (.aload_n 0, 1) := by decide +kernel
theorem dX10_remember_192 : decode cX10_remember 192 = .ok (.getfield 42, 3) := by decide +kernel
theorem dX10_remember_195 : decode cX10_remember 195 = .ok (.iload_n 1, 1) := by decide +kernel
theorem dX10_remember_196 : decode cX10_remember 196 = .ok (.iaload, 1) := by decide +kernel
theorem dX10_remember_197 : decode cX10_remember 197 = .ok (.if_icmp .ge 8, 3) := by decide +kernel
theorem dX10_remember_200 : decode cX10_remember 200 = .ok (.iload 11, 2) := by decide +kernel
theorem dX10_remember_202 : decode cX10_remember 202 = .ok (.goto 24, 3) := by decide +kernel
theorem dX10_remember_205 : decode cX10_remember 205 = .ok (.aload_n 0, 1) := by decide +kernel
theorem dX10_remember_206 : decode cX10_remember 206 = .ok (.getfield 42, 3) := by decide +kernel
theorem dX10_remember_209 : decode cX10_remember 209 = .ok (.iload_n 1, 1) := by decide +kernel
theorem dX10_remember_210 : decode cX10_remember 210 = .ok (.iaload, 1) := by decide +kernel
theorem dX10_remember_211 : decode cX10_remember 211 = .ok (.bipush 16, 2) := by decide +kernel
theorem dX10_remember_213 : decode cX10_remember 213 = .ok (.if_icmp .ne 7, 3) := by decide +kernel
theorem dX10_remember_216 : decode cX10_remember 216 = .ok (.iconst 0, 1) := by decide +kernel
theorem dX10_remember_217 : decode cX10_remember 217 = .ok (.goto 9, 3) := by decide +kernel
theorem dX10_remember_220 : decode cX10_remember 220 = .ok (.aload_n 0, 1) := by decide +kernel
theorem dX10_remember_221 : decode cX10_remember 221 = .ok (.getfield 42, 3) := by decide +kernel
theorem dX10_remember_224 : decode cX10_remember 224 = .ok (.iload_n 1, 1) := by decide +kernel
theorem dX10_remember_225 : decode cX10_remember 225 = .ok (.iaload, 1) := by decide +kernel
theorem dX10_remember_226 : decode cX10_remember 226 = .ok (.istore 12, 2) := by decide +kernel
theorem dX10_remember_228 : decode cX10_remember 228 = .ok (.aload_n 0, 1) := by decide +kernel
theorem dX10_remember_229 : decode cX10_remember 229 = .ok (.getfield 42, 3) := by decide +kernel
theorem dX10_remember_232 : decode cX10_remember 232 = .ok (.iload_n 1, 1) := by decide +kernel
theorem dX10_remember_233 : decode cX10_remember 233 = .ok (.dup2, 1) := by decide +kernel
theorem dX10_remember_234 : decode cX10_remember 234 = .ok (.iaload, 1) := by decide +kernel
theorem dX10_remember_235 : decode cX10_remember 235 = .ok (.iload 12, 2) := by decide +kernel
theorem dX10_remember_237 : decode cX10_remember 237 = .ok (.aload_n 0, 1) := by decide +kernel
theorem dX10_remember_238 : decode cX10_remember 238 = .ok (.getfield 42, 3) := by decide +kernel
theorem dX10_remember_241 : decode cX10_remember 241 = .ok (.iload_n 1, 1) := by decide +kernel
theorem dX10_remember_242 : decode cX10_remember 242 = .ok (.iaload, 1) := by decide +kernel
theorem dX10_remember_243 : decode cX10_remember 243 = .ok (.if_icmp .ne 7, 3) := by decide +kernel
theorem dX10_remember_246 : decode cX10_remember 246 = .ok (.iconst 1, 1) := by decide +kernel
theorem dX10_remember_247 : decode cX10_remember 247 = .ok (.goto 4, 3) := by decide +kernel
theorem dX10_remember_250 : decode cX10_remember 250 = .ok (.iconst 0, 1) := by decide +kernel
theorem dX10_remember_251 : decode cX10_remember 251 = .ok (.iadd, 1) := by decide +kernel
theorem dX10_remember_252 : decode cX10_remember 252 = .ok (.iastore, 1) := by decide +kernel
theorem dX10_remember_253 : decode cX10_remember 253 = .ok (.iload 10, 2) := by decide +kernel
theorem dX10_remember_255 : decode cX10_remember 255 = .ok (.iconst 4, 1) := by decide +kernel
theorem dX10_remember_256 : decode cX10_remember 256 = .ok (.iload 12, 2) := by decide +kernel
theorem dX10_remember_258 : decode cX10_remember 258 = .ok (.imul, 1) := by decide +kernel
theorem dX10_remember_259 : decode cX10_remember 259 = .ok (.iadd, 1) := by decide +kernel
theorem dX10_remember_260 : decode cX10_remember 260 = .ok (.istore 13, 2) := by decide +kernel
theorem dX10_remember_262 : decode cX10_remember 262 = .ok (.iload 13, 2) := by decide +kernel
theorem dX10_remember_264 : decode cX10_remember 264 = .ok (.iload 10, 2) := by decide +kernel
theorem dX10_remember_266 : decode cX10_remember 266 = .ok (.iconst 4, 1) := by decide +kernel
theorem dX10_remember_267 : decode cX10_remember 267 = .ok (.aload_n 0, 1) := by decide +kernel
theorem dX10_remember_268 : decode cX10_remember 268 = .ok (.getfield 42, 3) := by decide +kernel
theorem dX10_remember_271 : decode cX10_remember 271 = .ok (.iload_n 1, 1) := by decide +kernel
theorem dX10_remember_272 : decode cX10_remember 272 = .ok (.iaload, 1) := by decide +kernel
theorem dX10_remember_273 : decode cX10_remember 273 = .ok (.imul, 1) := by decide +kernel
theorem dX10_remember_274 : decode cX10_remember 274 = .ok (.iadd, 1) := by decide +kernel
theorem dX10_remember_275 : decode cX10_remember 275 = .ok (.iconst 4, 1) := by decide +kernel
theorem dX10_remember_276 : decode cX10_remember 276 = .ok (.isub, 1) := by decide +kernel
theorem dX10_remember_277 : decode cX10_remember 277 = .ok (.if_icmp .ge 25, 3) := by decide +kernel
theorem dX10_remember_280 : decode cX10_remember 280 = .ok (.aload_n 0, 1) := by decide +kernel
theorem dX10_remember_281 : decode cX10_remember 281 = .ok (.getfield 38, 3) := by decide +kernel
theorem dX10_remember_284 : decode cX10_remember 284 = .ok (.iload 13, 2) := by decide +kernel
theorem dX10_remember_286 : decode cX10_remember 286 = .ok (.aload_n 0, 1) := by decide +kernel
theorem dX10_remember_287 : decode cX10_remember 287 = .ok (.getfield 38, 3) := by decide +kernel
theorem dX10_remember_290 : decode cX10_remember 290 = .ok (.iload 13, 2) := by decide +kernel
theorem dX10_remember_292 : decode cX10_remember 292 = .ok (.iconst 4, 1) := by decide +kernel
theorem dX10_remember_293 : decode cX10_remember 293 = .ok (.iadd, 1) := by decide +kernel
theorem dX10_remember_294 : decode cX10_remember 294 = .ok (.laload, 1) := by decide +kernel
theorem dX10_remember_295 : decode cX10_remember 295 = .ok (.lastore, 1) := by decide +kernel
theorem dX10_remember_296 : decode cX10_remember 296 = .ok (.iinc 13 1, 3) := by decide +kernel
theorem dX10_remember_299 : decode cX10_remember 299 = .ok (.goto (-37), 3) := by decide +kernel
theorem dX10_remember_302 : decode cX10_remember 302 = .ok (.iload 10, 2) := by decide +kernel
theorem dX10_remember_304 : decode cX10_remember 304 = .ok (.iconst 4, 1) := by decide +kernel
theorem dX10_remember_305 : decode cX10_remember 305 = .ok (.aload_n 0, 1) := by decide +kernel
theorem dX10_remember_306 : decode cX10_remember 306 = .ok (.getfield 42, 3) := by decide +kernel
theorem dX10_remember_309 : decode cX10_remember 309 = .ok (.iload_n 1, 1) := by decide +kernel
theorem dX10_remember_310 : decode cX10_remember 310 = .ok (.iaload, 1) := by decide +kernel
theorem dX10_remember_311 : decode cX10_remember 311 = .ok (.imul, 1) := by decide +kernel
theorem dX10_remember_312 : decode cX10_remember 312 = .ok (.iadd, 1) := by decide +kernel
theorem dX10_remember_313 : decode cX10_remember 313 = .ok (.iconst 4, 1) := by decide +kernel
theorem dX10_remember_314 : decode cX10_remember 314 = .ok (.isub, 1) := by decide +kernel
theorem dX10_remember_315 : decode cX10_remember 315 = .ok (.istore 13, 2) := by decide +kernel
theorem dX10_remember_317 : decode cX10_remember 317 = .ok (.aload_n 0, 1) := by decide +kernel
theorem dX10_remember_318 : decode cX10_remember 318 = .ok (.getfield 38, 3) := by decide +kernel
theorem dX10_remember_321 : decode cX10_remember 321 = .ok (.iload 13, 2) := by decide +kernel
theorem dX10_remember_323 : decode cX10_remember 323 = .ok (.lload_n 2, 1) := by decide +kernel
theorem dX10_remember_324 : decode cX10_remember 324 = .ok (.lastore, 1) := by decide +kernel
theorem dX10_remember_325 : decode cX10_remember 325 = .ok (.aload_n 0, 1) := by decide +kernel
theorem dX10_remember_326 : decode cX10_remember 326 = .ok (.getfield 38, 3) := by decide +kernel
theorem dX10_remember_329 : decode cX10_remember 329 = .ok (.iload 13, 2) := by decide +kernel
theorem dX10_remember_331 : decode cX10_remember 331 = .ok (.iconst 1, 1) := by decide +kernel
theorem dX10_remember_332 : decode cX10_remember 332 = .ok (.iadd, 1) := by decide +kernel
theorem dX10_remember_333 : decode cX10_remember 333 = .ok (.lload 4, 2) := by decide +kernel
theorem dX10_remember_335 : decode cX10_remember 335 = .ok (.lastore, 1) := by decide +kernel
theorem dX10_remember_336 : decode cX10_remember 336 = .ok (.aload_n 0, 1) := by decide +kernel
theorem dX10_remember_337 : decode cX10_remember 337 = .ok (.getfield 38, 3) := by decide +kernel
theorem dX10_remember_340 : decode cX10_remember 340 = .ok (.iload 13, 2) := by decide +kernel
theorem dX10_remember_342 : decode cX10_remember 342 = .ok (.iconst 2, 1) := by decide +kernel
theorem dX10_remember_343 : decode cX10_remember 343 = .ok (.iadd, 1) := by decide +kernel
theorem dX10_remember_344 : decode cX10_remember 344 = .ok (.lload 6, 2) := by decide +kernel
theorem dX10_remember_346 : decode cX10_remember 346 = .ok (.lastore, 1) := by decide +kernel
theorem dX10_remember_347 : decode cX10_remember 347 = .ok (.aload_n 0, 1) := by decide +kernel
theorem dX10_remember_348 : decode cX10_remember 348 = .ok (.getfield 38, 3) := by decide +kernel
theorem dX10_remember_351 : decode cX10_remember 351 = .ok (.iload 13, 2) := by decide +kernel
theorem dX10_remember_353 : decode cX10_remember 353 = .ok (.iconst 3, 1) := by decide +kernel
theorem dX10_remember_354 : decode cX10_remember 354 = .ok (.iadd, 1) := by decide +kernel
theorem dX10_remember_355 : decode cX10_remember 355 = .ok (.lload 8, 2) := by decide +kernel
theorem dX10_remember_357 : decode cX10_remember 357 = .ok (.lastore, 1) := by decide +kernel
theorem dX10_remember_358 : decode cX10_remember 358 = .ok (.return_, 1) := by decide +kernel
theorem dX10_arg_0 : decode cX10_arg 0 = .ok (.iload_n 1, 1) := by decide +kernel
theorem dX10_arg_1 : decode cX10_arg 1 = .ok (.ifCond .lt 20, 3) := by decide +kernel
theorem dX10_arg_4 : decode cX10_arg 4 = .ok (.iload_n 1, 1) := by decide +kernel
theorem dX10_arg_5 : decode cX10_arg 5 = .ok (.iconst 1, 1) := by decide +kernel
theorem dX10_arg_6 : decode cX10_arg 6 = .ok (.if_icmp .gt 15, 3) := by decide +kernel
theorem dX10_arg_9 : decode cX10_arg 9 = .ok (.iload_n 2, 1) := by decide +kernel
theorem dX10_arg_10 : decode cX10_arg 10 = .ok (.ifCond .lt 11, 3) := by decide +kernel
theorem dX10_arg_13 : decode cX10_arg 13 = .ok (.iload_n 2, 1) := by decide +kernel
theorem dX10_arg_14 : decode cX10_arg 14 = .ok (.aload_n 0, 1) := by decide +kernel
theorem dX10_arg_15 : decode cX10_arg 15 = .ok (.getfield 125, 3) := by decide +kernel
theorem dX10_arg_18 : decode cX10_arg 18 = .ok (.if_icmp .lt 6, 3) := by decide +kernel
theorem dX10_arg_21 : decode cX10_arg 21 = .ok (.bipush (-2), 2) := by decide +kernel
theorem dX10_arg_23 : decode cX10_arg 23 = .ok (.ireturn, 1) := by decide +kernel
