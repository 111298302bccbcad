theorem dX10_firstTuple_72 : decode cX10_firstTuple 72 = .ok (.aload_n 0, 1) := by decide +kernel
theorem dX10_firstTuple_73 : decode cX10_firstTuple 73 = .ok (.iload_n 1, 1) := by decide +kernel
theorem dX10_firstTuple_74 : decode cX10_firstTuple 74 = .ok (.iload_n 2, 1) := by decide +kernel
theorem dX10_firstTuple_75 : decode cX10_firstTuple 75 = .ok (.invokevirtual 255, 3) := by decide +kernel
theorem dX10_firstTuple_78 : decode cX10_firstTuple 78 = .ok (.iinc 2 1, 3) := by decide +kernel
theorem dX10_firstTuple_81 : decode cX10_firstTuple 81 = .ok (.goto (-79), 3) := by decide +kernel
theorem dX10_firstTuple_84 : decode cX10_firstTuple 84 = .ok (.aload_n 0, 1) := by decide +kernel
theorem dX10_firstTuple_85 : decode cX10_firstTuple 85 = .ok (.iconst 0, 1) := by decide +kernel
theorem dX10_firstTuple_86 : decode cX10_firstTuple 86 = .ok (.invokevirtual 252, 3) := by decide +kernel
theorem dX10_firstTuple_89 : decode cX10_firstTuple 89 = .ok (.bipush 12, 2) := by decide +kernel
theorem dX10_firstTuple_91 : decode cX10_firstTuple 91 = .ok (.if_icmp .ge 7, 3) := by decide +kernel
theorem dX10_firstTuple_94 : decode cX10_firstTuple 94 = .ok (.iconst 1, 1) := by decide +kernel
theorem dX10_firstTuple_95 : decode cX10_firstTuple 95 = .ok (.goto 4, 3) := by decide +kernel
theorem dX10_firstTuple_98 : decode cX10_firstTuple 98 = .ok (.iconst 0, 1) := by decide +kernel
theorem dX10_firstTuple_99 : decode cX10_firstTuple 99 = .ok (.ireturn, 1) := by decide +kernel
set_option maxRecDepth 20000 in
theorem ggX10_nextAt_X10_nextClass : GoodIn wsX10_nextAt wsX10_nextClass := goodIn_r _ [12, 13, 14, 15, 16, 17, 18, 19, 20, 21, 22, 23, 24, 25, 26, 27, 28, 29, 30, 31, 32, 33, 34, 35, 36, 37, 38, 39, 40, 41, 42, 43, 44, 45, 46, 47, 48, 49, 50, 51, 52] (by decide +kernel) (by decide +kernel)
set_option maxRecDepth 20000 in
theorem gX10_nextAt_X10_nextClass : GoodIn wsX10_nextAt (wsV RX10 252 RX10 yX10_nextClass wsX10_nextClass) := goodIn_app (goodIn_of _ (by decide +kernel)) ggX10_nextAt_X10_nextClass
theorem dX10_nextAt_0 : decode cX10_nextAt 0 = .ok (.aload_n 0, 1) := by decide +kernel
theorem dX10_nextAt_1 : decode cX10_nextAt 1 = .ok (.getfield 29, 3) := by decide +kernel
theorem dX10_nextAt_4 : decode cX10_nextAt 4 = .ok (.iload_n 1, 1) := by decide +kernel
theorem dX10_nextAt_5 : decode cX10_nextAt 5 = .ok (.iaload, 1) := by decide +kernel
theorem dX10_nextAt_6 : decode cX10_nextAt 6 = .ok (.iconst 1, 1) := by decide +kernel
theorem dX10_nextAt_7 : decode cX10_nextAt 7 = .ok (.isub, 1) := by decide +kernel
theorem dX10_nextAt_8 : decode cX10_nextAt 8 = .ok (.istore_n 3, 1) := by decide +kernel
theorem dX10_nextAt_9 : decode cX10_nextAt 9 = .ok (.iload_n 3, 1) := by decide +kernel
theorem dX10_nextAt_10 : decode cX10_nextAt 10 = .ok (.iload_n 2, 1) := by decide +kernel
theorem dX10_nextAt_11 : decode cX10_nextAt 11 = .ok (.if_icmp .le 36, 3) := by decide +kernel
theorem dX10_nextAt_14 : decode cX10_nextAt 14 = .ok (.aload_n 0, 1) := by decide +kernel
theorem dX10_nextAt_15 : decode cX10_nextAt 15 = .ok (.getfield 82, 3) := by decide +kernel
theorem dX10_nextAt_18 : decode cX10_nextAt 18 = .ok (.iload_n 3, 1) := by decide +kernel
theorem dX10_nextAt_19 : decode cX10_nextAt 19 = .ok (.aload_n 0, 1) := by decide +kernel
theorem dX10_nextAt_20 : decode cX10_nextAt 20 = .ok (.iconst 0, 1) := by decide +kernel
theorem dX10_nextAt_21 : decode cX10_nextAt 21 = .ok (.invokevirtual 252, 3) := by decide +kernel
theorem dX10_nextAt_24 : decode cX10_nextAt 24 = .ok (.iastore, 1) := by decide +kernel
theorem dX10_nextAt_25 : decode cX10_nextAt 25 = .ok (.aload_n 0, 1) := by decide +kernel
theorem dX10_nextAt_26 : decode cX10_nextAt 26 = .ok (.getfield 85, 3) := by decide +kernel
theorem dX10_nextAt_29 : decode cX10_nextAt 29 = .ok (.iload_n 3, 1) := by decide +kernel
theorem dX10_nextAt_30 : decode cX10_nextAt 30 = .ok (.ldc2_w 250, 3) := by decide +kernel
theorem dX10_nextAt_33 : decode cX10_nextAt 33 = .ok (.lastore, 1) := by decide +kernel
theorem dX10_nextAt_34 : decode cX10_nextAt 34 = .ok (.aload_n 0, 1) := by decide +kernel
theorem dX10_nextAt_35 : decode cX10_nextAt 35 = .ok (.getfield 100, 3) := by decide +kernel
theorem dX10_nextAt_38 : decode cX10_nextAt 38 = .ok (.iload_n 3, 1) := by decide +kernel
theorem dX10_nextAt_39 : decode cX10_nextAt 39 = .ok (.iconst 0, 1) := by decide +kernel
theorem dX10_nextAt_40 : decode cX10_nextAt 40 = .ok (.iastore, 1) := by decide +kernel
theorem dX10_nextAt_41 : decode cX10_nextAt 41 = .ok (.iinc 3 (-1), 3) := by decide +kernel
theorem dX10_nextAt_44 : decode cX10_nextAt 44 = .ok (.goto (-35), 3) := by decide +kernel
theorem dX10_nextAt_47 : decode cX10_nextAt 47 = .ok (.iload_n 2, 1) := by decide +kernel
theorem dX10_nextAt_48 : decode cX10_nextAt 48 = .ok (.istore_n 3, 1) := by decide +kernel
theorem dX10_nextAt_49 : decode cX10_nextAt 49 = .ok (.iload_n 3, 1) := by decide +kernel
theorem dX10_nextAt_50 : decode cX10_nextAt 50 = .ok (.ifCond .lt 116, 3) := by decide +kernel
theorem dX10_nextAt_53 : decode cX10_nextAt 53 = .ok (.aload_n 0, 1) := by decide +kernel
theorem dX10_nextAt_54 : decode cX10_nextAt 54 = .ok (.getfield 100, 3) := by decide +kernel
theorem dX10_nextAt_57 : decode cX10_nextAt 57 = .ok (.iload_n 3, 1) := by decide +kernel
theorem dX10_nextAt_58 : decode cX10_nextAt 58 = .ok (.dup2, 1) := by decide +kernel
theorem dX10_nextAt_59 : decode cX10_nextAt 59 = .ok (.iaload, 1) := by decide +kernel
theorem dX10_nextAt_60 : decode cX10_nextAt 60 = .ok (.iconst 1, 1) := by decide +kernel
theorem dX10_nextAt_61 : decode cX10_nextAt 61 = .ok (.iadd, 1) := by decide +kernel
theorem dX10_nextAt_62 : decode cX10_nextAt 62 = .ok (.iastore, 1) := by decide +kernel
theorem dX10_nextAt_63 : decode cX10_nextAt 63 = .ok (.aload_n 0, 1) := by decide +kernel
theorem dX10_nextAt_64 : decode cX10_nextAt 64 = .ok (.getfield 100, 3) := by decide +kernel
theorem dX10_nextAt_67 : decode cX10_nextAt 67 = .ok (.iload_n 3, 1) := by decide +kernel
theorem dX10_nextAt_68 : decode cX10_nextAt 68 = .ok (.iaload, 1) := by decide +kernel
theorem dX10_nextAt_69 : decode cX10_nextAt 69 = .ok (.aload_n 0, 1) := by decide +kernel
theorem dX10_nextAt_70 : decode cX10_nextAt 70 = .ok (.getfield 97, 3) := by decide +kernel
theorem dX10_nextAt_73 : decode cX10_nextAt 73 = .ok (.iload_n 3, 1) := by decide +kernel
theorem dX10_nextAt_74 : decode cX10_nextAt 74 = .ok (.iaload, 1) := by decide +kernel
theorem dX10_nextAt_75 : decode cX10_nextAt 75 = .ok (.if_icmp .ge 27, 3) := by decide +kernel
theorem dX10_nextAt_78 : decode cX10_nextAt 78 = .ok (.aload_n 0, 1) := by decide +kernel
theorem dX10_nextAt_79 : decode cX10_nextAt 79 = .ok (.getfield 85, 3) := by decide +kernel
theorem dX10_nextAt_82 : decode cX10_nextAt 82 = .ok (.iload_n 3, 1) := by decide +kernel
theorem dX10_nextAt_83 : decode cX10_nextAt 83 = .ok (.aload_n 0, 1) := by decide +kernel
theorem dX10_nextAt_84 : decode cX10_nextAt 84 = .ok (.getfield 94, 3) := by decide +kernel
theorem dX10_nextAt_87 : decode cX10_nextAt 87 = .ok (.bipush 34, 2) := by decide +kernel
theorem dX10_nextAt_89 : decode cX10_nextAt 89 = .ok (.iload_n 3, 1) := by decide +kernel
theorem dX10_nextAt_90 : decode cX10_nextAt 90 = .ok (.imul, 1) := by decide +kernel
theorem dX10_nextAt_91 : decode cX10_nextAt 91 = .ok (.aload_n 0, 1) := by decide +kernel
theorem dX10_nextAt_92 : decode cX10_nextAt 92 = .ok (.getfield 100, 3) := by decide +kernel
theorem dX10_nextAt_95 : decode cX10_nextAt 95 = .ok (.iload_n 3, 1) := by decide +kernel
theorem dX10_nextAt_96 : decode cX10_nextAt 96 = .ok (.iaload, 1) := by decide +kernel
theorem dX10_nextAt_97 : decode cX10_nextAt 97 = .ok (.iadd, 1) := by decide +kernel
theorem dX10_nextAt_98 : decode cX10_nextAt 98 = .ok (.laload, 1) := by decide +kernel
theorem dX10_nextAt_99 : decode cX10_nextAt 99 = .ok (.lastore, 1) := by decide +kernel
theorem dX10_nextAt_100 : decode cX10_nextAt 100 = .ok (.iconst 1, 1) := by decide +kernel
theorem dX10_nextAt_101 : decode cX10_nextAt 101 = .ok (.ireturn, 1) := by decide +kernel
theorem dX10_nextAt_102 : decode cX10_nextAt 102 = .ok (.aload_n 0, 1) := by decide +kernel
theorem dX10_nextAt_103 : decode cX10_nextAt 103 = .ok (.getfield 100, 3) := by decide +kernel
theorem dX10_nextAt_106 : decode cX10_nextAt 106 = .ok (.iload_n 3, 1) := by decide +kernel
theorem dX10_nextAt_107 : decode cX10_nextAt 107 = .ok (.iconst 0, 1) := by decide +kernel
theorem dX10_nextAt_108 : decode cX10_nextAt 108 = .ok (.iastore, 1) := by decide +kernel
theorem dX10_nextAt_109 : decode cX10_nextAt 109 = .ok (.aload_n 0, 1) := by decide +kernel
theorem dX10_nextAt_110 : decode cX10_nextAt 110 = .ok (.getfield 85, 3) := by decide +kernel
theorem dX10_nextAt_113 : decode cX10_nextAt 113 = .ok (.iload_n 3, 1) := by decide +kernel
theorem dX10_nextAt_114 : decode cX10_nextAt 114 = .ok (.ldc2_w 250, 3) := by decide +kernel
theorem dX10_nextAt_117 : decode cX10_nextAt 117 = .ok (.lastore, 1) := by decide +kernel
theorem dX10_nextAt_118 : decode cX10_nextAt 118 = .ok (.aload_n 0, 1) := by decide +kernel
theorem dX10_nextAt_119 : decode cX10_nextAt 119 = .ok (.getfield 82, 3) := by decide +kernel
theorem dX10_nextAt_122 : decode cX10_nextAt 122 = .ok (.iload_n 3, 1) := by decide +kernel
theorem dX10_nextAt_123 : decode cX10_nextAt 123 = .ok (.aload_n 0, 1) := by decide +kernel
theorem dX10_nextAt_124 : decode cX10_nextAt 124 = .ok (.aload_n 0, 1) := by decide +kernel
theorem dX10_nextAt_125 : decode cX10_nextAt 125 = .ok (.getfield 82, 3) := by decide +kernel
theorem dX10_nextAt_128 : decode cX10_nextAt 128 = .ok (.iload_n 3, 1) := by decide +kernel
theorem dX10_nextAt_129 : decode cX10_nextAt 129 = .ok (.iaload, 1) := by decide +kernel
theorem dX10_nextAt_130 : decode cX10_nextAt 130 = .ok (.iconst 1, 1) := by decide +kernel
theorem dX10_nextAt_131 : decode cX10_nextAt 131 = .ok (.iadd, 1) := by decide +kernel
theorem dX10_nextAt_132 : decode cX10_nextAt 132 = .ok (.invokevirtual 252, 3) := by decide +kernel
theorem dX10_nextAt_135 : decode cX10_nextAt 135 = .ok (.iastore, 1) := by decide +kernel
theorem dX10_nextAt_136 : decode cX10_nextAt 136 = .ok (.aload_n 0, 1) := by decide +kernel
theorem dX10_nextAt_137 : decode cX10_nextAt 137 = .ok (.getfield 82, 3) := by decide +kernel
theorem dX10_nextAt_140 : decode cX10_nextAt 140 = .ok (.iload_n 3, 1) := by decide +kernel
theorem dX10_nextAt_141 : decode cX10_nextAt 141 = .ok (.iaload, 1) := by decide +kernel
theorem dX10_nextAt_142 : decode cX10_nextAt 142 = .ok (.bipush 12, 2) := by decide +kernel
theorem dX10_nextAt_144 : decode cX10_nextAt 144 = .ok (.if_icmp .ge 5, 3) := by decide +kernel
theorem dX10_nextAt_147 : decode cX10_nextAt 147 = .ok (.iconst 1, 1) := by decide +kernel
theorem dX10_nextAt_148 : decode cX10_nextAt 148 = .ok (.ireturn, 1) := by decide +kernel
theorem dX10_nextAt_149 : decode cX10_nextAt 149 = .ok (.aload_n 0, 1) := by decide +kernel
theorem dX10_nextAt_150 : decode cX10_nextAt 150 = .ok (.getfield 82, 3) := by decide +kernel
theorem dX10_nextAt_153 : decode cX10_nextAt 153 = .ok (.iload_n 3, 1) := by decide +kernel
theorem dX10_nextAt_154 : decode cX10_nextAt 154 = .ok (.aload_n 0, 1) := by decide +kernel
theorem dX10_nextAt_155 : decode cX10_nextAt 155 = .ok (.iconst 0, 1) := by decide +kernel
theorem dX10_nextAt_156 : decode cX10_nextAt 156 = .ok (.invokevirtual 252, 3) := by decide +kernel
theorem dX10_nextAt_159 : decode cX10_nextAt 159 = .ok (.iastore, 1) := by decide +kernel
theorem dX10_nextAt_160 : decode cX10_nextAt 160 = .ok (.iinc 3 (-1), 3) := by decide +kernel
theorem dX10_nextAt_163 : decode cX10_nextAt 163 = .ok (.goto (-114), 3) := by decide +kernel
theorem dX10_nextAt_166 : decode cX10_nextAt 166 = .ok (.iconst 0, 1) := by decide +kernel
theorem dX10_nextAt_167 : decode cX10_nextAt 167 = .ok (.ireturn, 1) := by decide +kernel
set_option maxRecDepth 20000 in
theorem ggX10_nextTuple_X10_nextAt : GoodIn wsX10_nextTuple wsX10_nextAt := goodIn_r _ [6, 1, 7, 8, 9, 10, 11, 12, 13, 14, 15, 5, 16, 17, 18, 19, 20, 21, 22, 23, 24, 25, 26, 27, 28, 29, 30, 31, 32, 33, 34, 35, 36, 37, 38, 39, 40, 41, 42, 43, 44, 45, 46, 47, 48, 49, 50, 51, 52, 53, 54, 55, 56] (by decide +kernel) (by decide +kernel)
set_option maxRecDepth 20000 in
theorem gX10_nextTuple_X10_nextAt : GoodIn wsX10_nextTuple (wsV RX10 259 RX10 yX10_nextAt wsX10_nextAt) := goodIn_app (goodIn_of _ (by decide +kernel)) ggX10_nextTuple_X10_nextAt
theorem dX10_nextTuple_0 : decode cX10_nextTuple 0 = .ok (.aload_n 0, 1) := by decide +kernel
theorem dX10_nextTuple_1 : decode cX10_nextTuple 1 = .ok (.iload_n 1, 1) := by decide +kernel
theorem dX10_nextTuple_2 : decode cX10_nextTuple 2 = .ok (.aload_n 0, 1) := by decide +kernel
theorem dX10_nextTuple_3 : decode cX10_nextTuple 3 = .ok (.getfield 29, 3) := by decide +kernel
theorem dX10_nextTuple_6 : decode cX10_nextTuple 6 = .ok (.iload_n 1, 1) := by decide +kernel
theorem dX10_nextTuple_7 : decode cX10_nextTuple 7 = .ok (.iaload, 1) := by decide +kernel
theorem dX10_nextTuple_8 : decode cX10_nextTuple 8 = .ok (.iconst 1, 1) := by decide +kernel
theorem dX10_nextTuple_9 : decode cX10_nextTuple 9 = .ok (.isub, 1) := by decide +kernel
theorem dX10_nextTuple_10 : decode cX10_nextTuple 10 = .ok (.invokevirtual 259, 3) := by decide +kernel
theorem dX10_nextTuple_13 : decode cX10_nextTuple 13 = .ok (.ireturn, 1) := by decide +kernel
theorem dX10_keepTuple_0 : decode cX10_keepTuple 0 = .ok (.iconst 0, 1) := by decide +kernel
theorem dX10_keepTuple_1 : decode cX10_keepTuple 1 = .ok (.istore_n 2, 1) := by decide +kernel
theorem dX10_keepTuple_2 : decode cX10_keepTuple 2 = .ok (.iload_n 2, 1) := by decide +kernel
theorem dX10_keepTuple_3 : decode cX10_keepTuple 3 = .ok (.iconst 2, 1) := by decide +kernel
theorem dX10_keepTuple_4 : decode cX10_keepTuple 4 = .ok (.if_icmp .ge 64, 3) := by decide +kernel
theorem dX10_keepTuple_7 : decode cX10_keepTuple 7 = .ok (.aload_n 0, 1) := by decide +kernel
theorem dX10_keepTuple_8 : decode cX10_keepTuple 8 = .ok (.getfield 103, 3) := by decide +kernel
theorem dX10_keepTuple_11 : decode cX10_keepTuple 11 = .ok (.iload_n 2, 1) := by decide +kernel
theorem dX10_keepTuple_12 : decode cX10_keepTuple 12 = .ok (.iload_n 2, 1) := by decide +kernel
theorem dX10_keepTuple_13 : decode cX10_keepTuple 13 = .ok (.aload_n 0, 1) := by decide +kernel
theorem dX10_keepTuple_14 : decode cX10_keepTuple 14 = .ok (.getfield 29, 3) := by decide +kernel
theorem dX10_keepTuple_17 : decode cX10_keepTuple 17 = .ok (.iload_n 1, 1) := by decide +kernel
theorem dX10_keepTuple_18 : decode cX10_keepTuple 18 = .ok (.iaload, 1) := by decide +kernel
theorem dX10_keepTuple_19 : decode cX10_keepTuple 19 = .ok (.if_icmp .ge 13, 3) := by decide +kernel
theorem dX10_keepTuple_22 : decode cX10_keepTuple 22 = .ok (.aload_n 0, 1) := by decide +kernel
theorem dX10_keepTuple_23 : decode cX10_keepTuple 23 = .ok (.getfield 82, 3) := by decide +kernel
theorem dX10_keepTuple_26 : decode cX10_keepTuple 26 = .ok (.iload_n 2, 1) := by decide +kernel
theorem dX10_keepTuple_27 : decode cX10_keepTuple 27 = .ok (.iaload, 1) := by decide +kernel
theorem dX10_keepTuple_28 : decode cX10_keepTuple 28 = .ok (.i2l, 1) := by decide +kernel
theorem dX10_keepTuple_29 : decode cX10_keepTuple 29 = .ok (.goto 4, 3) := by decide +kernel
theorem dX10_keepTuple_32 : decode cX10_keepTuple 32 = .ok (.lconst 0, 1) := by decide +kernel
theorem dX10_keepTuple_33 : decode cX10_keepTuple 33 = .ok (.lastore, 1) := by decide +kernel
theorem dX10_keepTuple_34 : decode cX10_keepTuple 34 = .ok (.aload_n 0, 1) := by decide +kernel
theorem dX10_keepTuple_35 : decode cX10_keepTuple 35 = .ok (.getfield 103, 3) := by decide +kernel
theorem dX10_keepTuple_38 : decode cX10_keepTuple 38 = .ok (.iconst 2, 1) := by decide +kernel
theorem dX10_keepTuple_39 : decode cX10_keepTuple 39 = .ok (.iload_n 2, 1) := by decide +kernel
theorem dX10_keepTuple_40 : decode cX10_keepTuple 40 = .ok (.iadd, 1) := by decide +kernel
theorem dX10_keepTuple_41 : decode cX10_keepTuple 41 = .ok (.iload_n 2, 1) := by decide +kernel
theorem dX10_keepTuple_42 : decode cX10_keepTuple 42 = .ok (.aload_n 0, 1) := by decide +kernel
theorem dX10_keepTuple_43 : decode cX10_keepTuple 43 = .ok (.getfield 29, 3) := by decide +kernel
theorem dX10_keepTuple_46 : decode cX10_keepTuple 46 = .ok (.iload_n 1, 1) := by decide +kernel
theorem dX10_keepTuple_47 : decode cX10_keepTuple 47 = .ok (.iaload, 1) := by decide +kernel
theorem dX10_keepTuple_48 : decode cX10_keepTuple 48 = .ok (.if_icmp .ge 12, 3) := by decide +kernel
theorem dX10_keepTuple_51 : decode cX10_keepTuple 51 = .ok (.aload_n 0, 1) := by decide +kernel
theorem dX10_keepTuple_52 : decode cX10_keepTuple 52 = .ok (.getfield 85, 3) := by decide +kernel
theorem dX10_keepTuple_55 : decode cX10_keepTuple 55 = .ok (.iload_n 2, 1) := by decide +kernel
theorem dX10_keepTuple_56 : decode cX10_keepTuple 56 = .ok (.laload, 1) := by decide +kernel
theorem dX10_keepTuple_57 : decode cX10_keepTuple 57 = .ok (.goto 4, 3) := by decide +kernel
theorem dX10_keepTuple_60 : decode cX10_keepTuple 60 = .ok (.lconst 0, 1) := by decide +kernel
theorem dX10_keepTuple_61 : decode cX10_keepTuple 61 = .ok (.lastore, 1) := by decide +kernel
theorem dX10_keepTuple_62 : decode cX10_keepTuple 62 = .ok (.iinc 2 1, 3) := by decide +kernel
theorem dX10_keepTuple_65 : decode cX10_keepTuple 65 = .ok (.goto (-63), 3) := by decide +kernel
theorem dX10_keepTuple_68 : decode cX10_keepTuple 68 = .ok (.return_, 1) := by decide +kernel
set_option maxRecDepth 20000 in
theorem ggX10_findHole_X10_firstTuple : GoodIn wsX10_findHole wsX10_firstTuple := goodIn_r _ [5, 6, 7, 8, 9, 10, 11, 12, 13, 4, 14, 15, 16, 17, 18, 19, 20, 21, 22, 23, 24, 25, 26, 27, 28, 29, 30, 31, 80, 81, 82, 83, 84, 85, 86, 87, 88, 89, 90, 91, 92, 93, 94, 95, 96, 97, 98, 99, 100, 101, 102, 103, 104, 105, 106, 107, 108, 109, 110, 111, 112, 113, 114, 115, 116, 117, 118] (by decide +kernel) (by decide +kernel)
set_option maxRecDepth 20000 in
theorem gX10_findHole_X10_firstTuple : GoodIn wsX10_findHole (wsV RX10 262 RX10 yX10_firstTuple wsX10_firstTuple) := goodIn_app (goodIn_of _ (by decide +kernel)) ggX10_findHole_X10_firstTuple
set_option maxRecDepth 20000 in
theorem ggX10_findHole_X10_chosen : GoodIn wsX10_findHole wsX10_chosen := goodIn_r _ [35, 22, 36, 37, 38, 4, 39, 40, 26, 27, 28, 29, 30, 31, 41, 42, 43, 44, 7, 45, 46, 47, 48, 49, 6, 8, 23, 24, 50, 51, 52, 53, 54, 55, 56, 57, 58, 59, 60, 61, 62, 63, 64, 65, 66, 80, 81, 82, 83, 84, 85, 86, 87, 88, 89, 90, 91, 92, 93, 94, 95, 96, 97, 98, 99, 100, 101, 102, 103, 104, 105, 106, 107, 108, 109, 110, 111, 112, 113, 114, 115, 116, 117, 118] (by decide +kernel) (by decide +kernel)
set_option maxRecDepth 20000 in
theorem gX10_findHole_X10_chosen : GoodIn wsX10_findHole (wsV RX10 206 RX10 yX10_chosen wsX10_chosen) := goodIn_app (goodIn_of _ (by decide +kernel)) ggX10_findHole_X10_chosen
set_option maxRecDepth 20000 in
theorem ggX10_findHole_X10_nextTuple : GoodIn wsX10_findHole wsX10_nextTuple := goodIn_r _ [70, 7, 71, 72, 73, 4, 74, 6, 8, 9, 10, 25, 20, 11, 12, 13, 14, 15, 80, 81, 82, 83, 84, 85, 86, 87, 88, 89, 90, 91, 92, 93, 94, 95, 96, 97, 98, 99, 100, 101, 102, 103, 104, 105, 106, 107, 108, 109, 110, 111, 112, 113, 114, 115, 116, 117, 118] (by decide +kernel) (by decide +kernel)
set_option maxRecDepth 20000 in
theorem gX10_findHole_X10_nextTuple : GoodIn wsX10_findHole (wsV RX10 265 RX10 yX10_nextTuple wsX10_nextTuple) := goodIn_app (goodIn_of _ (by decide +kernel)) ggX10_findHole_X10_nextTuple
set_option maxRecDepth 20000 in
theorem ggX10_findHole_X10_keepTuple : GoodIn wsX10_findHole wsX10_keepTuple := goodIn_r _ [78, 79, 7, 6, 8, 80, 81, 82, 83, 84, 85, 86, 87, 88, 89, 90, 91, 92, 93, 94, 95, 96, 97, 98, 99, 100, 101, 102, 103, 104, 105, 106, 107, 108, 109, 110, 111, 112, 113, 114, 115, 116, 117, 118] (by decide +kernel) (by decide +kernel)
set_option maxRecDepth 20000 in
theorem gX10_findHole_X10_keepTuple : GoodIn wsX10_findHole (wsV RX10 268 RX10 yX10_keepTuple wsX10_keepTuple) := goodIn_app (goodIn_of _ (by decide +kernel)) ggX10_findHole_X10_keepTuple
theorem dX10_findHole_0 : decode cX10_findHole 0 = .ok (.aload_n 0, 1) := by decide +kernel
theorem dX10_findHole_1 : decode cX10_findHole 1 = .ok (.iload_n 1, 1) := by decide +kernel
theorem dX10_findHole_2 : decode cX10_findHole 2 = .ok (.invokevirtual 262, 3) := by decide +kernel
theorem dX10_findHole_5 : decode cX10_findHole 5 = .ok (.istore_n 2, 1) := by decide +kernel
theorem dX10_findHole_6 : decode cX10_findHole 6 = .ok (.iload_n 2, 1) := by decide +kernel
theorem dX10_findHole_7 : decode cX10_findHole 7 = .ok (.ifCond .eq 21, 3) := by decide +kernel
theorem dX10_findHole_10 : decode cX10_findHole 10 = .ok (.aload_n 0, 1) := by decide +kernel
theorem dX10_findHole_11 : decode cX10_findHole 11 = .ok (.iload_n 1, 1) := by decide +kernel
theorem dX10_findHole_12 : decode cX10_findHole 12 = .ok (.iconst (-1), 1) := by decide +kernel
theorem dX10_findHole_13 : decode cX10_findHole 13 = .ok (.invokevirtual 206, 3) := by decide +kernel
theorem dX10_findHole_16 : decode cX10_findHole 16 = .ok (.ifCond .lt 12, 3) := by decide +kernel
theorem dX10_findHole_19 : decode cX10_findHole 19 = .ok (.aload_n 0, 1) := by decide +kernel
theorem dX10_findHole_20 : decode cX10_findHole 20 = .ok (.iload_n 1, 1) := by decide +kernel
theorem dX10_findHole_21 : decode cX10_findHole 21 = .ok (.invokevirtual 265, 3) := by decide +kernel
theorem dX10_findHole_24 : decode cX10_findHole 24 = .ok (.istore_n 2, 1) := by decide +kernel
theorem dX10_findHole_25 : decode cX10_findHole 25 = .ok (.goto (-19), 3) := by decide +kernel
theorem dX10_findHole_28 : decode cX10_findHole 28 = .ok (.aload_n 0, 1) := by decide +kernel
theorem dX10_findHole_29 : decode cX10_findHole 29 = .ok (.iload_n 1, 1) := by decide +kernel
theorem dX10_findHole_30 : decode cX10_findHole 30 = .ok (.invokevirtual 268, 3) := by decide +kernel
theorem dX10_findHole_33 : decode cX10_findHole 33 = .ok (.iload_n 2, 1) := by decide +kernel
theorem dX10_findHole_34 : decode cX10_findHole 34 = .ok (.ireturn, 1) := by decide +kernel
set_option maxRecDepth 20000 in
theorem ggX10_covered_X10_isFunction : GoodIn wsX10_covered wsX10_isFunction := goodIn_r _ [5, 6, 89, 90, 91, 92, 93, 94, 95, 96, 97, 98, 99, 100, 101, 102, 103, 104, 105, 106, 107, 108, 109, 110, 111, 112, 113, 114, 115, 116, 117, 118, 119, 120, 121, 122, 123, 124, 125, 126, 127] (by decide +kernel) (by decide +kernel)
set_option maxRecDepth 20000 in
theorem gX10_covered_X10_isFunction : GoodIn wsX10_covered (wsV RX10 134 RX10 yX10_isFunction wsX10_isFunction) := goodIn_app (goodIn_of _ (by decide +kernel)) ggX10_covered_X10_isFunction
set_option maxRecDepth 20000 in
theorem ggX10_covered_X10_findHole : GoodIn wsX10_covered wsX10_findHole := goodIn_r _ [10, 11, 12, 13, 4, 14, 15, 16, 17, 18, 19, 20, 21, 22, 23, 24, 25, 26, 27, 28, 29, 30, 31, 32, 33, 34, 35, 36, 37, 38, 39, 40, 41, 42, 43, 44, 45, 46, 47, 48, 49, 50, 51, 52, 53, 54, 55, 56, 57, 58, 59, 60, 61, 62, 63, 64, 65, 66, 67, 68, 69, 70, 71, 72, 73, 74, 75, 76, 77, 78, 79, 80, 81, 82, 83, 84, 85, 86, 87, 88, 89, 90, 91, 92, 93, 94, 95, 96, 97, 98, 99, 100, 101, 102, 103, 104, 105, 106, 107, 108, 109, 110, 111, 112, 113, 114, 115, 116, 117, 118, 119, 120, 121, 122, 123, 124, 125, 126, 127] (by decide +kernel) (by decide +kernel)
set_option maxRecDepth 20000 in
theorem gX10_covered_X10_findHole : GoodIn wsX10_covered (wsV RX10 271 RX10 yX10_findHole wsX10_findHole) := goodIn_app (goodIn_of _ (by decide +kernel)) ggX10_covered_X10_findHole
theorem dX10_covered_0 : decode cX10_covered 0 = .ok (.aload_n 0, 1) := by decide +kernel
theorem dX10_covered_1 : decode cX10_covered 1 = .ok (.iload_n 1, 1) := by decide +kernel
theorem dX10_covered_2 : decode cX10_covered 2 = .ok (.invokevirtual 134, 3) := by decide +kernel
theorem dX10_covered_5 : decode cX10_covered 5 = .ok (.ifCond .ne 6, 3) := by decide +kernel
theorem dX10_covered_8 : decode cX10_covered 8 = .ok (.bipush (-2), 2) := by decide +kernel
theorem dX10_covered_10 : decode cX10_covered 10 = .ok (.ireturn, 1) := by decide +kernel
theorem dX10_covered_11 : decode cX10_covered 11 = .ok (.aload_n 0, 1) := by decide +kernel
theorem dX10_covered_12 : decode cX10_covered 12 = .ok (.iload_n 1, 1) := by decide +kernel
theorem dX10_covered_13 : decode cX10_covered 13 = .ok (.invokevirtual 271, 3) := by decide +kernel
theorem dX10_covered_16 : decode cX10_covered 16 = .ok (.ifCond .eq 7, 3) := by decide +kernel
theorem dX10_covered_19 : decode cX10_covered 19 = .ok (.iconst 0, 1) := by decide +kernel
theorem dX10_covered_20 : decode cX10_covered 20 = .ok (.goto 4, 3) := by decide +kernel
theorem dX10_covered_23 : decode cX10_covered 23 = .ok (.iconst 1, 1) := by decide +kernel
theorem dX10_covered_24 : decode cX10_covered 24 = .ok (.ireturn, 1) := by decide +kernel
set_option maxRecDepth 20000 in
theorem ggX10_hole_X10_isFunction : GoodIn wsX10_hole wsX10_isFunction := goodIn_r _ [7, 8, 90, 91, 92, 93, 94, 95, 96, 97, 98, 99, 100, 101, 102, 103, 104, 105, 106, 107, 108, 109, 110, 111, 112, 113, 114, 115, 116, 117, 118, 119, 120, 121, 122, 123, 124, 125, 126, 127, 128] (by decide +kernel) (by decide +kernel)
set_option maxRecDepth 20000 in
theorem gX10_hole_X10_isFunction : GoodIn wsX10_hole (wsV RX10 134 RX10 yX10_isFunction wsX10_isFunction) := goodIn_app (goodIn_of _ (by decide +kernel)) ggX10_hole_X10_isFunction
set_option maxRecDepth 20000 in
theorem ggX10_hole_X10_findHole : GoodIn wsX10_hole wsX10_findHole := goodIn_r _ [12, 13, 14, 15, 6, 16, 17, 18, 19, 20, 21, 22, 23, 24, 25, 26, 27, 28, 29, 30, 31, 32, 33, 34, 35, 36, 37, 38, 39, 40, 41, 42, 43, 44, 45, 46, 47, 48, 49, 50, 51, 52, 53, 54, 55, 56, 57, 58, 59, 60, 61, 62, 63, 64, 65, 66, 67, 68, 69, 70, 71, 72, 73, 74, 75, 76, 77, 78, 79, 80, 81, 82, 83, 84, 85, 86, 87, 88, 89, 1, 90, 91, 92, 93, 94, 95, 96, 97, 98, 99, 100, 101, 102, 103, 104, 105, 106, 107, 108, 109, 110, 111, 112, 113, 114, 115, 116, 117, 118, 119, 120, 121, 122, 123, 124, 125, 126, 127, 128] (by decide +kernel) (by decide +kernel)
set_option maxRecDepth 20000 in
theorem gX10_hole_X10_findHole : GoodIn wsX10_hole (wsV RX10 271 RX10 yX10_findHole wsX10_findHole) := goodIn_app (goodIn_of _ (by decide +kernel)) ggX10_hole_X10_findHole
theorem dX10_hole_0 : decode cX10_hole 0 = .ok (.aload_n 0, 1) := by decide +kernel
theorem dX10_hole_1 : decode cX10_hole 1 = .ok (.iload_n 1, 1) := by decide +kernel
theorem dX10_hole_2 : decode cX10_hole 2 = .ok (.invokevirtual 134, 3) := by decide +kernel
theorem dX10_hole_5 : decode cX10_hole 5 = .ok (.ifCond .eq 29, 3) := by decide +kernel
theorem dX10_hole_8 : decode cX10_hole 8 = .ok (.iload_n 2, 1) := by decide +kernel
theorem dX10_hole_9 : decode cX10_hole 9 = .ok (.ifCond .lt 25, 3) := by decide +kernel
theorem dX10_hole_12 : decode cX10_hole 12 = .ok (.iload_n 2, 1) := by decide +kernel
theorem dX10_hole_13 : decode cX10_hole 13 = .ok (.iconst 4, 1) := by decide +kernel
theorem dX10_hole_14 : decode cX10_hole 14 = .ok (.if_icmp .ge 20, 3) := by decide +kernel
theorem dX10_hole_17 : decode cX10_hole 17 = .ok (.aload_n 0, 1) := by decide +kernel
theorem dX10_hole_18 : decode cX10_hole 18 = .ok (.iload_n 1, 1) := by decide +kernel
theorem dX10_hole_19 : decode cX10_hole 19 = .ok (.invokevirtual 271, 3) := by decide +kernel
theorem dX10_hole_22 : decode cX10_hole 22 = .ok (.ifCond .eq 12, 3) := by decide +kernel
theorem dX10_hole_25 : decode cX10_hole 25 = .ok (.aload_n 0, 1) := by decide +kernel
theorem dX10_hole_26 : decode cX10_hole 26 = .ok (.getfield 103, 3) := by decide +kernel
theorem dX10_hole_29 : decode cX10_hole 29 = .ok (.iload_n 2, 1) := by decide +kernel
theorem dX10_hole_30 : decode cX10_hole 30 = .ok (.laload, 1) := by decide +kernel
theorem dX10_hole_31 : decode cX10_hole 31 = .ok (.goto 6, 3) := by decide +kernel
theorem dX10_hole_34 : decode cX10_hole 34 = .ok (.ldc2_w 274, 3) := by decide +kernel
theorem dX10_hole_37 : decode cX10_hole 37 = .ok (.lreturn, 1) := by decide +kernel
set_option maxRecDepth 20000 in
theorem ggX10_areInDoubt_X10_takes : GoodIn wsX10_areInDoubt wsX10_takes := goodIn_r _ [6, 7, 8, 9, 10, 11, 5, 12, 13, 14, 15, 16, 17, 18, 19, 20, 21, 22, 45, 46, 47, 48, 49, 50, 51, 52, 53, 54, 55, 56, 57, 58, 59, 60, 61, 62, 63, 64, 65, 66, 67, 68, 69, 70, 71, 72, 73, 74, 75, 76, 77, 78, 79, 80, 81, 82, 83] (by decide +kernel) (by decide +kernel)
set_option maxRecDepth 20000 in
theorem gX10_areInDoubt_X10_takes : GoodIn wsX10_areInDoubt (wsV RX10 168 RX10 yX10_takes wsX10_takes) := goodIn_app (goodIn_of _ (by decide +kernel)) ggX10_areInDoubt_X10_takes
set_option maxRecDepth 20000 in
theorem ggX10_areInDoubt_X10_isOffered : GoodIn wsX10_areInDoubt wsX10_isOffered := goodIn_r _ [26, 27, 28, 29, 30, 5, 31, 8, 32, 2, 3, 4, 6, 7, 9, 10, 11, 12, 13, 14, 15, 16, 17, 18, 19, 20, 21, 22, 33, 34, 35, 36, 37, 38, 39, 40, 41, 42, 43, 44, 45, 46, 47, 48, 49, 50, 51, 52, 53, 54, 55, 56, 57, 58, 59, 60, 61, 62, 63, 64, 65, 66, 67, 68, 69, 70, 71, 72, 73, 74, 75, 76, 77, 78, 79, 80, 81, 82, 83] (by decide +kernel) (by decide +kernel)
set_option maxRecDepth 20000 in
theorem gX10_areInDoubt_X10_isOffered : GoodIn wsX10_areInDoubt (wsV RX10 171 RX10 yX10_isOffered wsX10_isOffered) := goodIn_app (goodIn_of _ (by decide +kernel)) ggX10_areInDoubt_X10_isOffered
set_option maxRecDepth 20000 in
theorem ggX10_areInDoubt_X10_isMore : GoodIn wsX10_areInDoubt wsX10_isMore := goodIn_r _ [36, 8, 7, 37, 38, 39, 5, 40, 13, 16, 17, 18, 19, 20, 21, 22, 41, 42, 43, 44, 45, 46, 47, 48, 49, 50, 51, 52, 53, 54, 55, 56, 57, 58, 59, 60, 61, 62, 63, 64, 65, 66, 67, 68, 69, 70, 71, 72, 73, 74, 75, 76, 77, 78, 79, 80, 81, 82, 83] (by decide +kernel) (by decide +kernel)
set_option maxRecDepth 20000 in
theorem gX10_areInDoubt_X10_isMore : GoodIn wsX10_areInDoubt (wsV RX10 159 RX10 yX10_isMore wsX10_isMore) := goodIn_app (goodIn_of _ (by decide +kernel)) ggX10_areInDoubt_X10_isMore
theorem dX10_areInDoubt_0 : decode cX10_areInDoubt 0 = .ok (.aload_n 0, 1) := by decide +kernel
theorem dX10_areInDoubt_1 : decode cX10_areInDoubt 1 = .ok (.iload_n 2, 1) := by decide +kernel
theorem dX10_areInDoubt_2 : decode cX10_areInDoubt 2 = .ok (.invokevirtual 168, 3) := by decide +kernel
theorem dX10_areInDoubt_5 : decode cX10_areInDoubt 5 = .ok (.ifCond .eq 11, 3) := by decide +kernel
theorem dX10_areInDoubt_8 : decode cX10_areInDoubt 8 = .ok (.aload_n 0, 1) := by decide +kernel
theorem dX10_areInDoubt_9 : decode cX10_areInDoubt 9 = .ok (.iload_n 3, 1) := by decide +kernel
theorem dX10_areInDoubt_10 : decode cX10_areInDoubt 10 = .ok (.invokevirtual 168, 3) := by decide +kernel
theorem dX10_areInDoubt_13 : decode cX10_areInDoubt 13 = .ok (.ifCond .ne 5, 3) := by decide +kernel
theorem dX10_areInDoubt_16 : decode cX10_areInDoubt 16 = .ok (.iconst 0, 1) := by decide +kernel
theorem dX10_areInDoubt_17 : decode cX10_areInDoubt 17 = .ok (.ireturn, 1) := by decide +kernel
theorem dX10_areInDoubt_18 : decode cX10_areInDoubt 18 = .ok (.iconst 1, 1) := by decide +kernel
theorem dX10_areInDoubt_19 : decode cX10_areInDoubt 19 = .ok (.istore 4, 2) := by decide +kernel
theorem dX10_areInDoubt_21 : decode cX10_areInDoubt 21 = .ok (.iconst 0, 1) := by decide +kernel
theorem dX10_areInDoubt_22 : decode cX10_areInDoubt 22 = .ok (.istore 5, 2) := by decide +kernel
theorem dX10_areInDoubt_24 : decode cX10_areInDoubt 24 = .ok (.iload 5, 2) := by decide +kernel
theorem dX10_areInDoubt_26 : decode cX10_areInDoubt 26 = .ok (.aload_n 0, 1) := by decide +kernel
theorem dX10_areInDoubt_27 : decode cX10_areInDoubt 27 = .ok (.getfield 131, 3) := by decide +kernel
theorem dX10_areInDoubt_30 : decode cX10_areInDoubt 30 = .ok (.if_icmp .ge 52, 3) := by decide +kernel
theorem dX10_areInDoubt_33 : decode cX10_areInDoubt 33 = .ok (.iload 4, 2) := by decide +kernel
theorem dX10_areInDoubt_35 : decode cX10_areInDoubt 35 = .ok (.ifCond .eq 38, 3) := by decide +kernel
theorem dX10_areInDoubt_38 : decode cX10_areInDoubt 38 = .ok (.aload_n 0, 1) := by decide +kernel
theorem dX10_areInDoubt_39 : decode cX10_areInDoubt 39 = .ok (.iload 5, 2) := by decide +kernel
theorem dX10_areInDoubt_41 : decode cX10_areInDoubt 41 = .ok (.iload_n 1, 1) := by decide +kernel
theorem dX10_areInDoubt_42 : decode cX10_areInDoubt 42 = .ok (.iconst (-1), 1) := by decide +kernel
theorem dX10_areInDoubt_43 : decode cX10_areInDoubt 43 = .ok (.invokevirtual 171, 3) := by decide +kernel
theorem dX10_areInDoubt_46 : decode cX10_areInDoubt 46 = .ok (.ifCond .eq 23, 3) := by decide +kernel
theorem dX10_areInDoubt_49 : decode cX10_areInDoubt 49 = .ok (.aload_n 0, 1) := by decide +kernel
theorem dX10_areInDoubt_50 : decode cX10_areInDoubt 50 = .ok (.iload 5, 2) := by decide +kernel
theorem dX10_areInDoubt_52 : decode cX10_areInDoubt 52 = .ok (.iload_n 2, 1) := by decide +kernel
theorem dX10_areInDoubt_53 : decode cX10_areInDoubt 53 = .ok (.invokevirtual 159, 3) := by decide +kernel
theorem dX10_areInDoubt_56 : decode cX10_areInDoubt 56 = .ok (.ifCond .eq 13, 3) := by decide +kernel
theorem dX10_areInDoubt_59 : decode cX10_areInDoubt 59 = .ok (.aload_n 0, 1) := by decide +kernel
theorem dX10_areInDoubt_60 : decode cX10_areInDoubt 60 = .ok (.iload 5, 2) := by decide +kernel
theorem dX10_areInDoubt_62 : decode cX10_areInDoubt 62 = .ok (.iload_n 3, 1) := by decide +kernel
theorem dX10_areInDoubt_63 : decode cX10_areInDoubt 63 = .ok (.invokevirtual 159, 3) := by decide +kernel
theorem dX10_areInDoubt_66 : decode cX10_areInDoubt 66 = .ok (.ifCond .ne 7, 3) := by decide +kernel
theorem dX10_areInDoubt_69 : decode cX10_areInDoubt 69 = .ok (.iconst 1, 1) := by decide +kernel
theorem dX10_areInDoubt_70 : decode cX10_areInDoubt 70 = .ok (.goto 4, 3) := by decide +kernel
theorem dX10_areInDoubt_73 : decode cX10_areInDoubt 73 = .ok (.iconst 0, 1) := by decide +kernel
theorem dX10_areInDoubt_74 : decode cX10_areInDoubt 74 = .ok (.istore 4, 2) := by decide +kernel
theorem dX10_areInDoubt_76 : decode cX10_areInDoubt 76 = .ok (.iinc 5 1, 3) := by decide +kernel
theorem dX10_areInDoubt_79 : decode cX10_areInDoubt 79 = .ok (.goto (-55), 3) := by decide +kernel
theorem dX10_areInDoubt_82 : decode cX10_areInDoubt 82 = .ok (.iload 4, 2) := by decide +kernel
theorem dX10_areInDoubt_84 : decode cX10_areInDoubt 84 = .ok (.ireturn, 1) := by decide +kernel
set_option maxRecDepth 20000 in
theorem ggX10_findDoubt_X10_isMore : GoodIn wsX10_findDoubt wsX10_isMore := goodIn_r _ [5, 6, 7, 8, 9, 10, 4, 11, 12, 13, 14, 15, 16, 17, 18, 19, 20, 21, 22, 23, 80, 81, 82, 83, 84, 85, 86, 87, 88, 89, 90, 91, 92, 93, 94, 95, 96, 97, 98, 99, 100, 101, 102, 103, 104, 105, 106, 107, 108, 109, 110, 111, 112, 113, 114, 115, 116, 117, 118] (by decide +kernel) (by decide +kernel)
set_option maxRecDepth 20000 in
theorem gX10_findDoubt_X10_isMore : GoodIn wsX10_findDoubt (wsV RX10 159 RX10 yX10_isMore wsX10_isMore) := goodIn_app (goodIn_of _ (by decide +kernel)) ggX10_findDoubt_X10_isMore
set_option maxRecDepth 20000 in
theorem ggX10_findDoubt_X10_firstTuple : GoodIn wsX10_findDoubt wsX10_firstTuple := goodIn_r _ [27, 28, 7, 29, 30, 31, 32, 33, 34, 4, 35, 36, 37, 38, 39, 40, 41, 42, 43, 13, 14, 44, 45, 46, 47, 48, 6, 49, 80, 81, 82, 83, 84, 85, 86, 87, 88, 89, 90, 91, 92, 93, 94, 95, 96, 97, 98, 99, 100, 101, 102, 103, 104, 105, 106, 107, 108, 109, 110, 111, 112, 113, 114, 115, 116, 117, 118] (by decide +kernel) (by decide +kernel)
set_option maxRecDepth 20000 in
theorem gX10_findDoubt_X10_firstTuple : GoodIn wsX10_findDoubt (wsV RX10 262 RX10 yX10_firstTuple wsX10_firstTuple) := goodIn_app (goodIn_of _ (by decide +kernel)) ggX10_findDoubt_X10_firstTuple
set_option maxRecDepth 20000 in
theorem ggX10_findDoubt_X10_takesAt : GoodIn wsX10_findDoubt wsX10_takesAt := goodIn_r _ [53, 12, 28, 29, 13, 14, 15, 16, 17, 4, 18, 19, 80, 81, 82, 83, 84, 85, 86, 87, 88, 89, 90, 91, 92, 93, 94, 95, 96, 97, 98, 99, 100, 101, 102, 103, 104, 105, 106, 107, 108, 109, 110, 111, 112, 113, 114, 115, 116, 117, 118] (by decide +kernel) (by decide +kernel)
set_option maxRecDepth 20000 in
theorem gX10_findDoubt_X10_takesAt : GoodIn wsX10_findDoubt (wsV RX10 165 RX10 yX10_takesAt wsX10_takesAt) := goodIn_app (goodIn_of _ (by decide +kernel)) ggX10_findDoubt_X10_takesAt
set_option maxRecDepth 20000 in
theorem ggX10_findDoubt_X10_areInDoubt : GoodIn wsX10_findDoubt wsX10_areInDoubt := goodIn_r _ [57, 43, 58, 59, 60, 4, 61, 7, 6, 50, 51, 52, 53, 12, 28, 29, 13, 14, 15, 16, 17, 18, 19, 62, 63, 64, 65, 66, 45, 46, 47, 48, 49, 1, 2, 3, 5, 8, 9, 10, 11, 20, 21, 22, 23, 80, 81, 82, 83, 84, 85, 86, 87, 88, 89, 90, 91, 92, 93, 94, 95, 96, 97, 98, 99, 100, 101, 102, 103, 104, 105, 106, 107, 108, 109, 110, 111, 112, 113, 114, 115, 116, 117, 118] (by decide +kernel) (by decide +kernel)
set_option maxRecDepth 20000 in
theorem gX10_findDoubt_X10_areInDoubt : GoodIn wsX10_findDoubt (wsV RX10 276 RX10 yX10_areInDoubt wsX10_areInDoubt) := goodIn_app (goodIn_of _ (by decide +kernel)) ggX10_findDoubt_X10_areInDoubt
set_option maxRecDepth 20000 in
theorem ggX10_findDoubt_X10_nextTuple : GoodIn wsX10_findDoubt wsX10_nextTuple := goodIn_r _ [70, 7, 71, 72, 73, 4, 74, 28, 29, 30, 31, 44, 41, 32, 33, 34, 35, 36, 80, 81, 82, 83, 84, 85, 86, 87, 88, 89, 90, 91, 92, 93, 94, 95, 96, 97, 98, 99, 100, 101, 102, 103, 104, 105, 106, 107, 108, 109, 110, 111, 112, 113, 114, 115, 116, 117, 118] (by decide +kernel) (by decide +kernel)
set_option maxRecDepth 20000 in
theorem gX10_findDoubt_X10_nextTuple : GoodIn wsX10_findDoubt (wsV RX10 265 RX10 yX10_nextTuple wsX10_nextTuple) := goodIn_app (goodIn_of _ (by decide +kernel)) ggX10_findDoubt_X10_nextTuple
set_option maxRecDepth 20000 in
theorem ggX10_findDoubt_X10_nextAt : GoodIn wsX10_findDoubt wsX10_nextAt := goodIn_r _ [74, 7, 28, 29, 30, 31, 44, 41, 32, 33, 34, 4, 35, 36, 80, 81, 82, 83, 84, 85, 86, 87, 88, 89, 90, 91, 92, 93, 94, 95, 96, 97, 98, 99, 100, 101, 102, 103, 104, 105, 106, 107, 108, 109, 110, 111, 112, 113, 114, 115, 116, 117, 118] (by decide +kernel) (by decide +kernel)
set_option maxRecDepth 20000 in
theorem gX10_findDoubt_X10_nextAt : GoodIn wsX10_findDoubt (wsV RX10 259 RX10 yX10_nextAt wsX10_nextAt) := goodIn_app (goodIn_of _ (by decide +kernel)) ggX10_findDoubt_X10_nextAt
set_option maxRecDepth 20000 in
theorem ggX10_findDoubt_X10_keepTuple : GoodIn wsX10_findDoubt wsX10_keepTuple := goodIn_r _ [78, 79, 7, 28, 29, 80, 81, 82, 83, 84, 85, 86, 87, 88, 89, 90, 91, 92, 93, 94, 95, 96, 97, 98, 99, 100, 101, 102, 103, 104, 105, 106, 107, 108, 109, 110, 111, 112, 113, 114, 115, 116, 117, 118] (by decide +kernel) (by decide +kernel)
set_option maxRecDepth 20000 in
theorem gX10_findDoubt_X10_keepTuple : GoodIn wsX10_findDoubt (wsV RX10 268 RX10 yX10_keepTuple wsX10_keepTuple) := goodIn_app (goodIn_of _ (by decide +kernel)) ggX10_findDoubt_X10_keepTuple
theorem dX10_findDoubt_0 : decode cX10_findDoubt 0 = .ok (.aload_n 0, 1) := by decide +kernel
theorem dX10_findDoubt_1 : decode cX10_findDoubt 1 = .ok (.iload_n 2, 1) := by decide +kernel
theorem dX10_findDoubt_2 : decode cX10_findDoubt 2 = .ok (.iload_n 3, 1) := by decide +kernel
theorem dX10_findDoubt_3 : decode cX10_findDoubt 3 = .ok (.invokevirtual 159, 3) := by decide +kernel
theorem dX10_findDoubt_6 : decode cX10_findDoubt 6 = .ok (.ifCond .ne 12, 3) := by decide +kernel
theorem dX10_findDoubt_9 : decode cX10_findDoubt 9 = .ok (.aload_n 0, 1) := by decide +kernel
theorem dX10_findDoubt_10 : decode cX10_findDoubt 10 = .ok (.iload_n 3, 1) := by decide +kernel
theorem dX10_findDoubt_11 : decode cX10_findDoubt 11 = .ok (.iload_n 2, 1) := by decide +kernel
theorem dX10_findDoubt_12 : decode cX10_findDoubt 12 = .ok (.invokevirtual 159, 3) := by decide +kernel
theorem dX10_findDoubt_15 : decode cX10_findDoubt 15 = .ok (.ifCond .eq 5, 3) := by decide +kernel
theorem dX10_findDoubt_18 : decode cX10_findDoubt 18 = .ok (.iconst 0, 1) := by decide +kernel
theorem dX10_findDoubt_19 : decode cX10_findDoubt 19 = .ok (.ireturn, 1) := by decide +kernel
theorem dX10_findDoubt_20 : decode cX10_findDoubt 20 = .ok (.aload_n 0, 1) := by decide +kernel
theorem dX10_findDoubt_21 : decode cX10_findDoubt 21 = .ok (.iload_n 1, 1) := by decide +kernel
theorem dX10_findDoubt_22 : decode cX10_findDoubt 22 = .ok (.invokevirtual 262, 3) := by decide +kernel
theorem dX10_findDoubt_25 : decode cX10_findDoubt 25 = .ok (.istore 4, 2) := by decide +kernel
theorem dX10_findDoubt_27 : decode cX10_findDoubt 27 = .ok (.iconst 0, 1) := by decide +kernel
theorem dX10_findDoubt_28 : decode cX10_findDoubt 28 = .ok (.istore 5, 2) := by decide +kernel
theorem dX10_findDoubt_30 : decode cX10_findDoubt 30 = .ok (.iload 4, 2) := by decide +kernel
theorem dX10_findDoubt_32 : decode cX10_findDoubt 32 = .ok (.ifCond .eq 84, 3) := by decide +kernel
theorem dX10_findDoubt_35 : decode cX10_findDoubt 35 = .ok (.iload 5, 2) := by decide +kernel
theorem dX10_findDoubt_37 : decode cX10_findDoubt 37 = .ok (.ifCond .ne 79, 3) := by decide +kernel
theorem dX10_findDoubt_40 : decode cX10_findDoubt 40 = .ok (.aload_n 0, 1) := by decide +kernel
theorem dX10_findDoubt_41 : decode cX10_findDoubt 41 = .ok (.iload_n 2, 1) := by decide +kernel
theorem dX10_findDoubt_42 : decode cX10_findDoubt 42 = .ok (.iconst 0, 1) := by decide +kernel
theorem dX10_findDoubt_43 : decode cX10_findDoubt 43 = .ok (.invokevirtual 165, 3) := by decide +kernel
theorem dX10_findDoubt_46 : decode cX10_findDoubt 46 = .ok (.ifCond .eq 16, 3) := by decide +kernel
theorem dX10_findDoubt_49 : decode cX10_findDoubt 49 = .ok (.aload_n 0, 1) := by decide +kernel
theorem dX10_findDoubt_50 : decode cX10_findDoubt 50 = .ok (.iload_n 3, 1) := by decide +kernel
theorem dX10_findDoubt_51 : decode cX10_findDoubt 51 = .ok (.iconst 0, 1) := by decide +kernel
theorem dX10_findDoubt_52 : decode cX10_findDoubt 52 = .ok (.invokevirtual 165, 3) := by decide +kernel
theorem dX10_findDoubt_55 : decode cX10_findDoubt 55 = .ok (.ifCond .eq 7, 3) := by decide +kernel
theorem dX10_findDoubt_58 : decode cX10_findDoubt 58 = .ok (.iconst 1, 1) := by decide +kernel
theorem dX10_findDoubt_59 : decode cX10_findDoubt 59 = .ok (.goto 4, 3) := by decide +kernel
theorem dX10_findDoubt_62 : decode cX10_findDoubt 62 = .ok (.iconst 0, 1) := by decide +kernel
theorem dX10_findDoubt_63 : decode cX10_findDoubt 63 = .ok (.istore 6, 2) := by decide +kernel
theorem dX10_findDoubt_65 : decode cX10_findDoubt 65 = .ok (.iload 6, 2) := by decide +kernel
theorem dX10_findDoubt_67 : decode cX10_findDoubt 67 = .ok (.ifCond .eq 17, 3) := by decide +kernel
theorem dX10_findDoubt_70 : decode cX10_findDoubt 70 = .ok (.aload_n 0, 1) := by decide +kernel
theorem dX10_findDoubt_71 : decode cX10_findDoubt 71 = .ok (.iload_n 1, 1) := by decide +kernel
theorem dX10_findDoubt_72 : decode cX10_findDoubt 72 = .ok (.iload_n 2, 1) := by decide +kernel
theorem dX10_findDoubt_73 : decode cX10_findDoubt 73 = .ok (.iload_n 3, 1) := by decide +kernel
theorem dX10_findDoubt_74 : decode cX10_findDoubt 74 = .ok (.invokevirtual 276, 3) := by decide +kernel
theorem dX10_findDoubt_77 : decode cX10_findDoubt 77 = .ok (.ifCond .eq 7, 3) := by decide +kernel
theorem dX10_findDoubt_80 : decode cX10_findDoubt 80 = .ok (.iconst 1, 1) := by decide +kernel
theorem dX10_findDoubt_81 : decode cX10_findDoubt 81 = .ok (.goto 4, 3) := by decide +kernel
theorem dX10_findDoubt_84 : decode cX10_findDoubt 84 = .ok (.iconst 0, 1) := by decide +kernel
theorem dX10_findDoubt_85 : decode cX10_findDoubt 85 = .ok (.istore 5, 2) := by decide +kernel
theorem dX10_findDoubt_87 : decode cX10_findDoubt 87 = .ok (.iload 5, 2) := by decide +kernel
theorem dX10_findDoubt_89 : decode cX10_findDoubt 89 = .ok (.ifCond .ne 24, 3) := by decide +kernel
theorem dX10_findDoubt_92 : decode cX10_findDoubt 92 = .ok (.iload 6, 2) := by decide +kernel
theorem dX10_findDoubt_94 : decode cX10_findDoubt 94 = .ok (.ifCond .eq 11, 3) := by decide +kernel
theorem dX10_findDoubt_97 : decode cX10_findDoubt 97 = .ok (.aload_n 0, 1) := by decide +kernel
theorem dX10_findDoubt_98 : decode cX10_findDoubt 98 = .ok (.iload_n 1, 1) := by decide +kernel
theorem dX10_findDoubt_99 : decode cX10_findDoubt 99 = .ok (.invokevirtual 265, 3) := by decide +kernel
theorem dX10_findDoubt_102 : decode cX10_findDoubt 102 = .ok (.goto 9, 3) := by decide +kernel
theorem dX10_findDoubt_105 : decode cX10_findDoubt 105 = .ok (.aload_n 0, 1) := by decide +kernel
theorem dX10_findDoubt_106 : decode cX10_findDoubt 106 = .ok (.iload_n 1, 1) := by decide +kernel
theorem dX10_findDoubt_107 : decode cX10_findDoubt 107 = .ok (.iconst 0, 1) := by decide +kernel
theorem dX10_findDoubt_108 : decode cX10_findDoubt 108 = .ok (.invokevirtual 259, 3) := by decide +kernel
theorem dX10_findDoubt_111 : decode cX10_findDoubt 111 = .ok (.istore 4, 2) := by decide +kernel
theorem dX10_findDoubt_113 : decode cX10_findDoubt 113 = .ok (.goto (-83), 3) := by decide +kernel
theorem dX10_findDoubt_116 : decode cX10_findDoubt 116 = .ok (.aload_n 0, 1) := by decide +kernel
theorem dX10_findDoubt_117 : decode cX10_findDoubt 117 = .ok (.iload_n 1, 1) := by decide +kernel
theorem dX10_findDoubt_118 : decode cX10_findDoubt 118 = .ok (.invokevirtual 268, 3) := by decide +kernel
theorem dX10_findDoubt_121 : decode cX10_findDoubt 121 = .ok (.iload 4, 2) := by decide +kernel
theorem dX10_findDoubt_123 : decode cX10_findDoubt 123 = .ok (.ireturn, 1) := by decide +kernel
set_option maxRecDepth 20000 in
theorem ggX10_doubt_X10_isFunction : GoodIn wsX10_doubt wsX10_isFunction := goodIn_r _ [9, 10, 90, 91, 92, 93, 94, 95, 96, 97, 98, 99, 100, 101, 102, 103, 104, 105, 106, 107, 108, 109, 110, 111, 112, 113, 114, 115, 116, 117, 118, 119, 120, 121, 122, 123, 124, 125, 126, 127, 128] (by decide +kernel) (by decide +kernel)
set_option maxRecDepth 20000 in
theorem gX10_doubt_X10_isFunction : GoodIn wsX10_doubt (wsV RX10 134 RX10 yX10_isFunction wsX10_isFunction) := goodIn_app (goodIn_of _ (by decide +kernel)) ggX10_doubt_X10_isFunction
set_option maxRecDepth 20000 in
theorem ggX10_doubt_X10_isLaid : GoodIn wsX10_doubt wsX10_isLaid := goodIn_r _ [14, 15, 16, 90, 91, 92, 93, 94, 95, 96, 97, 98, 99, 100, 101, 102, 103, 104, 105, 106, 107, 108, 109, 110, 111, 112, 113, 114, 115, 116, 117, 118, 119, 120, 121, 122, 123, 124, 125, 126, 127, 128] (by decide +kernel) (by decide +kernel)
set_option maxRecDepth 20000 in
theorem gX10_doubt_X10_isLaid : GoodIn wsX10_doubt (wsV RX10 145 RX10 yX10_isLaid wsX10_isLaid) := goodIn_app (goodIn_of _ (by decide +kernel)) ggX10_doubt_X10_isLaid
set_option maxRecDepth 20000 in
theorem ggX10_doubt_X10_findDoubt : GoodIn wsX10_doubt wsX10_findDoubt := goodIn_r _ [20, 21, 22, 23, 8, 24, 15, 25, 26, 27, 28, 29, 30, 31, 32, 33, 34, 35, 36, 37, 38, 39, 40, 41, 42, 43, 44, 45, 46, 47, 48, 49, 50, 51, 52, 53, 54, 55, 56, 57, 58, 59, 60, 2, 61, 11, 12, 13, 14, 16, 62, 63, 64, 65, 66, 67, 68, 69, 70, 71, 72, 73, 74, 75, 76, 77, 3, 78, 79, 80, 81, 82, 83, 84, 85, 86, 87, 88, 89, 4, 90, 91, 92, 93, 94, 95, 96, 97, 98, 99, 100, 101, 102, 103, 104, 105, 106, 107, 108, 109, 110, 111, 112, 113, 114, 115, 116, 117, 118, 119, 120, 121, 122, 123, 124, 125, 126, 127, 128] (by decide +kernel) (by decide +kernel)
set_option maxRecDepth 20000 in
theorem gX10_doubt_X10_findDoubt : GoodIn wsX10_doubt (wsV RX10 279 RX10 yX10_findDoubt wsX10_findDoubt) := goodIn_app (goodIn_of _ (by decide +kernel)) ggX10_doubt_X10_findDoubt
theorem dX10_doubt_0 : decode cX10_doubt 0 = .ok (.aload_n 0, 1) := by decide +kernel
theorem dX10_doubt_1 : decode cX10_doubt 1 = .ok (.iload_n 1, 1) := by decide +kernel
theorem dX10_doubt_2 : decode cX10_doubt 2 = .ok (.invokevirtual 134, 3) := by decide +kernel
theorem dX10_doubt_5 : decode cX10_doubt 5 = .ok (.ifCond .eq 16, 3) := by decide +kernel
theorem dX10_doubt_8 : decode cX10_doubt 8 = .ok (.iload_n 2, 1) := by decide +kernel
theorem dX10_doubt_9 : decode cX10_doubt 9 = .ok (.ifCond .lt 12, 3) := by decide +kernel
theorem dX10_doubt_12 : decode cX10_doubt 12 = .ok (.iload_n 3, 1) := by decide +kernel
theorem dX10_doubt_13 : decode cX10_doubt 13 = .ok (.ifCond .lt 8, 3) := by decide +kernel
theorem dX10_doubt_16 : decode cX10_doubt 16 = .ok (.iload_n 3, 1) := by decide +kernel
theorem dX10_doubt_17 : decode cX10_doubt 17 = .ok (.iconst 5, 1) := by decide +kernel
theorem dX10_doubt_18 : decode cX10_doubt 18 = .ok (.if_icmp .le 7, 3) := by decide +kernel
theorem dX10_doubt_21 : decode cX10_doubt 21 = .ok (.ldc2_w 274, 3) := by decide +kernel
theorem dX10_doubt_24 : decode cX10_doubt 24 = .ok (.lreturn, 1) := by decide +kernel
theorem dX10_doubt_25 : decode cX10_doubt 25 = .ok (.iconst 0, 1) := by decide +kernel
theorem dX10_doubt_26 : decode cX10_doubt 26 = .ok (.istore 4, 2) := by decide +kernel
theorem dX10_doubt_28 : decode cX10_doubt 28 = .ok (.iconst 0, 1) := by decide +kernel
theorem dX10_doubt_29 : decode cX10_doubt 29 = .ok (.istore 5, 2) := by decide +kernel
theorem dX10_doubt_31 : decode cX10_doubt 31 = .ok (.iload 5, 2) := by decide +kernel
theorem dX10_doubt_33 : decode cX10_doubt 33 = .ok (.aload_n 0, 1) := by decide +kernel
theorem dX10_doubt_34 : decode cX10_doubt 34 = .ok (.getfield 131, 3) := by decide +kernel
theorem dX10_doubt_37 : decode cX10_doubt 37 = .ok (.if_icmp .ge 133, 3) := by decide +kernel
theorem dX10_doubt_40 : decode cX10_doubt 40 = .ok (.iload 5, 2) := by decide +kernel
theorem dX10_doubt_42 : decode cX10_doubt 42 = .ok (.iconst 1, 1) := by decide +kernel
theorem dX10_doubt_43 : decode cX10_doubt 43 = .ok (.iadd, 1) := by decide +kernel
theorem dX10_doubt_44 : decode cX10_doubt 44 = .ok (.istore 6, 2) := by decide +kernel
theorem dX10_doubt_46 : decode cX10_doubt 46 = .ok (.iload 6, 2) := by decide +kernel
theorem dX10_doubt_48 : decode cX10_doubt 48 = .ok (.aload_n 0, 1) := by decide +kernel
theorem dX10_doubt_49 : decode cX10_doubt 49 = .ok (.getfield 131, 3) := by decide +kernel
theorem dX10_doubt_52 : decode cX10_doubt 52 = .ok (.if_icmp .ge 112, 3) := by decide +kernel
theorem dX10_doubt_55 : decode cX10_doubt 55 = .ok (.aload_n 0, 1) := by decide +kernel
theorem dX10_doubt_56 : decode cX10_doubt 56 = .ok (.iload 5, 2) := by decide +kernel
theorem dX10_doubt_58 : decode cX10_doubt 58 = .ok (.iload_n 1, 1) := by decide +kernel
theorem dX10_doubt_59 : decode cX10_doubt 59 = .ok (.invokevirtual 145, 3) := by decide +kernel
theorem dX10_doubt_62 : decode cX10_doubt 62 = .ok (.ifCond .eq 37, 3) := by decide +kernel
theorem dX10_doubt_65 : decode cX10_doubt 65 = .ok (.aload_n 0, 1) := by decide +kernel
theorem dX10_doubt_66 : decode cX10_doubt 66 = .ok (.iload 6, 2) := by decide +kernel
theorem dX10_doubt_68 : decode cX10_doubt 68 = .ok (.iload_n 1, 1) := by decide +kernel
theorem dX10_doubt_69 : decode cX10_doubt 69 = .ok (.invokevirtual 145, 3) := by decide +kernel
theorem dX10_doubt_72 : decode cX10_doubt 72 = .ok (.ifCond .eq 27, 3) := by decide +kernel
theorem dX10_doubt_75 : decode cX10_doubt 75 = .ok (.aload_n 0, 1) := by decide +kernel
theorem dX10_doubt_76 : decode cX10_doubt 76 = .ok (.getfield 54, 3) := by decide +kernel
theorem dX10_doubt_79 : decode cX10_doubt 79 = .ok (.iload 5, 2) := by decide +kernel
theorem dX10_doubt_81 : decode cX10_doubt 81 = .ok (.baload, 1) := by decide +kernel
theorem dX10_doubt_82 : decode cX10_doubt 82 = .ok (.ifCond .ne 17, 3) := by decide +kernel
theorem dX10_doubt_85 : decode cX10_doubt 85 = .ok (.aload_n 0, 1) := by decide +kernel
theorem dX10_doubt_86 : decode cX10_doubt 86 = .ok (.getfield 54, 3) := by decide +kernel
theorem dX10_doubt_89 : decode cX10_doubt 89 = .ok (.iload 6, 2) := by decide +kernel
theorem dX10_doubt_91 : decode cX10_doubt 91 = .ok (.baload, 1) := by decide +kernel
theorem dX10_doubt_92 : decode cX10_doubt 92 = .ok (.ifCond .ne 7, 3) := by decide +kernel
theorem dX10_doubt_95 : decode cX10_doubt 95 = .ok (.iconst 1, 1) := by decide +kernel
theorem dX10_doubt_96 : decode cX10_doubt 96 = .ok (.goto 4, 3) := by decide +kernel
theorem dX10_doubt_99 : decode cX10_doubt 99 = .ok (.iconst 0, 1) := by decide +kernel
theorem dX10_doubt_100 : decode cX10_doubt 100 = .ok (.istore 7, 2) := by decide +kernel
theorem dX10_doubt_102 : decode cX10_doubt 102 = .ok (.iload 7, 2) := by decide +kernel
theorem dX10_doubt_104 : decode cX10_doubt 104 = .ok (.ifCond .eq 54, 3) := by decide +kernel
theorem dX10_doubt_107 : decode cX10_doubt 107 = .ok (.aload_n 0, 1) := by decide +kernel
theorem dX10_doubt_108 : decode cX10_doubt 108 = .ok (.iload_n 1, 1) := by decide +kernel
theorem dX10_doubt_109 : decode cX10_doubt 109 = .ok (.iload 5, 2) := by decide +kernel
theorem dX10_doubt_111 : decode cX10_doubt 111 = .ok (.iload 6, 2) := by decide +kernel
theorem dX10_doubt_113 : decode cX10_doubt 113 = .ok (.invokevirtual 279, 3) := by decide +kernel
theorem dX10_doubt_116 : decode cX10_doubt 116 = .ok (.ifCond .eq 42, 3) := by decide +kernel
theorem dX10_doubt_119 : decode cX10_doubt 119 = .ok (.iload 4, 2) := by decide +kernel
theorem dX10_doubt_121 : decode cX10_doubt 121 = .ok (.iload_n 2, 1) := by decide +kernel
theorem dX10_doubt_122 : decode cX10_doubt 122 = .ok (.if_icmp .ne 33, 3) := by decide +kernel
theorem dX10_doubt_125 : decode cX10_doubt 125 = .ok (.iload_n 3, 1) := by decide +kernel
theorem dX10_doubt_126 : decode cX10_doubt 126 = .ok (.ifCond .ne 9, 3) := by decide +kernel
theorem dX10_doubt_129 : decode cX10_doubt 129 = .ok (.iload 5, 2) := by decide +kernel
theorem dX10_doubt_131 : decode cX10_doubt 131 = .ok (.i2l, 1) := by decide +kernel
theorem dX10_doubt_132 : decode cX10_doubt 132 = .ok (.goto 22, 3) := by decide +kernel
theorem dX10_doubt_135 : decode cX10_doubt 135 = .ok (.iload_n 3, 1) := by decide +kernel
theorem dX10_doubt_136 : decode cX10_doubt 136 = .ok (.iconst 1, 1) := by decide +kernel
theorem dX10_doubt_137 : decode cX10_doubt 137 = .ok (.if_icmp .ne 9, 3) := by decide +kernel
theorem dX10_doubt_140 : decode cX10_doubt 140 = .ok (.iload 6, 2) := by decide +kernel
theorem dX10_doubt_142 : decode cX10_doubt 142 = .ok (.i2l, 1) := by decide +kernel
theorem dX10_doubt_143 : decode cX10_doubt 143 = .ok (.goto 11, 3) := by decide +kernel
theorem dX10_doubt_146 : decode cX10_doubt 146 = .ok (.aload_n 0, 1) := by decide +kernel
theorem dX10_doubt_147 : decode cX10_doubt 147 = .ok (.getfield 103, 3) := by decide +kernel
theorem dX10_doubt_150 : decode cX10_doubt 150 = .ok (.iload_n 3, 1) := by decide +kernel
theorem dX10_doubt_151 : decode cX10_doubt 151 = .ok (.iconst 2, 1) := by decide +kernel
theorem dX10_doubt_152 : decode cX10_doubt 152 = .ok (.isub, 1) := by decide +kernel
theorem dX10_doubt_153 : decode cX10_doubt 153 = .ok (.laload, 1) := by decide +kernel
theorem dX10_doubt_154 : decode cX10_doubt 154 = .ok (.lreturn, 1) := by decide +kernel
theorem dX10_doubt_155 : decode cX10_doubt 155 = .ok (.iinc 4 1, 3) := by decide +kernel
theorem dX10_doubt_158 : decode cX10_doubt 158 = .ok (.iinc 6 1, 3) := by decide +kernel
theorem dX10_doubt_161 : decode cX10_doubt 161 = .ok (.goto (-115), 3) := by decide +kernel
theorem dX10_doubt_164 : decode cX10_doubt 164 = .ok (.iinc 5 1, 3) := by decide +kernel
theorem dX10_doubt_167 : decode cX10_doubt 167 = .ok (.goto (-136), 3) := by decide +kernel
theorem dX10_doubt_170 : decode cX10_doubt 170 = .ok (.ldc2_w 274, 3) := by decide +kernel
theorem dX10_doubt_173 : decode cX10_doubt 173 = .ok (.lreturn, 1) := by decide +kernel
