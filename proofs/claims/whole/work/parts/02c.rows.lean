theorem dX10_freeze_16 : decode cX10_freeze 16 = .ok (.baload, 1) := by decide +kernel
theorem dX10_freeze_17 : decode cX10_freeze 17 = .ok (.iload_n 2, 1) := by decide +kernel
theorem dX10_freeze_18 : decode cX10_freeze 18 = .ok (.if_icmp .ne 7, 3) := by decide +kernel
theorem dX10_freeze_21 : decode cX10_freeze 21 = .ok (.iconst 0, 1) := by decide +kernel
theorem dX10_freeze_22 : decode cX10_freeze 22 = .ok (.goto 4, 3) := by decide +kernel
theorem dX10_freeze_25 : decode cX10_freeze 25 = .ok (.iconst 1, 1) := by decide +kernel
theorem dX10_freeze_26 : decode cX10_freeze 26 = .ok (.istore_n 3, 1) := by decide +kernel
theorem dX10_freeze_27 : decode cX10_freeze 27 = .ok (.aload_n 0, 1) := by decide +kernel
theorem dX10_freeze_28 : decode cX10_freeze 28 = .ok (.getfield 32, 3) := by decide +kernel
theorem dX10_freeze_31 : decode cX10_freeze 31 = .ok (.iload_n 1, 1) := by decide +kernel
theorem dX10_freeze_32 : decode cX10_freeze 32 = .ok (.iload_n 2, 1) := by decide +kernel
theorem dX10_freeze_33 : decode cX10_freeze 33 = .ok (.bastore, 1) := by decide +kernel
theorem dX10_freeze_34 : decode cX10_freeze 34 = .ok (.iload_n 3, 1) := by decide +kernel
theorem dX10_freeze_35 : decode cX10_freeze 35 = .ok (.ireturn, 1) := by decide +kernel
theorem dX10_about_0 : decode cX10_about 0 = .ok (.aload_n 0, 1) := by decide +kernel
theorem dX10_about_1 : decode cX10_about 1 = .ok (.iload_n 1, 1) := by decide +kernel
theorem dX10_about_2 : decode cX10_about 2 = .ok (.invokevirtual 139, 3) := by decide +kernel
theorem dX10_about_5 : decode cX10_about 5 = .ok (.ifCond .eq 13, 3) := by decide +kernel
theorem dX10_about_8 : decode cX10_about 8 = .ok (.iload_n 2, 1) := by decide +kernel
theorem dX10_about_9 : decode cX10_about 9 = .ok (.ifCond .lt 9, 3) := by decide +kernel
theorem dX10_about_12 : decode cX10_about 12 = .ok (.iload_n 2, 1) := by decide +kernel
theorem dX10_about_13 : decode cX10_about 13 = .ok (.bipush 10, 2) := by decide +kernel
theorem dX10_about_15 : decode cX10_about 15 = .ok (.if_icmp .le 6, 3) := by decide +kernel
theorem dX10_about_18 : decode cX10_about 18 = .ok (.bipush (-2), 2) := by decide +kernel
theorem dX10_about_20 : decode cX10_about 20 = .ok (.ireturn, 1) := by decide +kernel
theorem dX10_about_21 : decode cX10_about 21 = .ok (.iload_n 2, 1) := by decide +kernel
theorem dX10_about_22 : decode cX10_about 22 = .ok (.iconst 5, 1) := by decide +kernel
theorem dX10_about_23 : decode cX10_about 23 = .ok (.isub, 1) := by decide +kernel
theorem dX10_about_24 : decode cX10_about 24 = .ok (.iconst 2, 1) := by decide +kernel
theorem dX10_about_25 : decode cX10_about 25 = .ok (.irem, 1) := by decide +kernel
theorem dX10_about_26 : decode cX10_about 26 = .ok (.istore_n 3, 1) := by decide +kernel
theorem dX10_about_27 : decode cX10_about 27 = .ok (.iload_n 2, 1) := by decide +kernel
theorem dX10_about_28 : decode cX10_about 28 = .ok (.iconst 5, 1) := by decide +kernel
theorem dX10_about_29 : decode cX10_about 29 = .ok (.if_icmp .lt 18, 3) := by decide +kernel
theorem dX10_about_32 : decode cX10_about 32 = .ok (.iload_n 3, 1) := by decide +kernel
theorem dX10_about_33 : decode cX10_about 33 = .ok (.aload_n 0, 1) := by decide +kernel
theorem dX10_about_34 : decode cX10_about 34 = .ok (.getfield 29, 3) := by decide +kernel
theorem dX10_about_37 : decode cX10_about 37 = .ok (.aload_n 0, 1) := by decide +kernel
theorem dX10_about_38 : decode cX10_about 38 = .ok (.getfield 45, 3) := by decide +kernel
theorem dX10_about_41 : decode cX10_about 41 = .ok (.iload_n 1, 1) := by decide +kernel
theorem dX10_about_42 : decode cX10_about 42 = .ok (.iaload, 1) := by decide +kernel
theorem dX10_about_43 : decode cX10_about 43 = .ok (.iaload, 1) := by decide +kernel
theorem dX10_about_44 : decode cX10_about 44 = .ok (.if_icmp .ge 7, 3) := by decide +kernel
theorem dX10_about_47 : decode cX10_about 47 = .ok (.iconst 1, 1) := by decide +kernel
theorem dX10_about_48 : decode cX10_about 48 = .ok (.goto 4, 3) := by decide +kernel
theorem dX10_about_51 : decode cX10_about 51 = .ok (.iconst 0, 1) := by decide +kernel
theorem dX10_about_52 : decode cX10_about 52 = .ok (.istore 4, 2) := by decide +kernel
theorem dX10_about_54 : decode cX10_about 54 = .ok (.iload_n 2, 1) := by decide +kernel
theorem dX10_about_55 : decode cX10_about 55 = .ok (.tableswitch 132 0 8 #[49, 56, 63, 70, 85, 92, 92, 112, 112], 49) := by decide +kernel
theorem dX10_about_104 : decode cX10_about 104 = .ok (.aload_n 0, 1) := by decide +kernel
theorem dX10_about_105 : decode cX10_about 105 = .ok (.getfield 45, 3) := by decide +kernel
theorem dX10_about_108 : decode cX10_about 108 = .ok (.iload_n 1, 1) := by decide +kernel
theorem dX10_about_109 : decode cX10_about 109 = .ok (.iaload, 1) := by decide +kernel
theorem dX10_about_110 : decode cX10_about 110 = .ok (.ireturn, 1) := by decide +kernel
theorem dX10_about_111 : decode cX10_about 111 = .ok (.aload_n 0, 1) := by decide +kernel
theorem dX10_about_112 : decode cX10_about 112 = .ok (.getfield 48, 3) := by decide +kernel
theorem dX10_about_115 : decode cX10_about 115 = .ok (.iload_n 1, 1) := by decide +kernel
theorem dX10_about_116 : decode cX10_about 116 = .ok (.iaload, 1) := by decide +kernel
theorem dX10_about_117 : decode cX10_about 117 = .ok (.ireturn, 1) := by decide +kernel
theorem dX10_about_118 : decode cX10_about 118 = .ok (.aload_n 0, 1) := by decide +kernel
theorem dX10_about_119 : decode cX10_about 119 = .ok (.getfield 51, 3) := by decide +kernel
theorem dX10_about_122 : decode cX10_about 122 = .ok (.iload_n 1, 1) := by decide +kernel
theorem dX10_about_123 : decode cX10_about 123 = .ok (.iaload, 1) := by decide +kernel
theorem dX10_about_124 : decode cX10_about 124 = .ok (.ireturn, 1) := by decide +kernel
theorem dX10_about_125 : decode cX10_about 125 = .ok (.aload_n 0, 1) := by decide +kernel
theorem dX10_about_126 : decode cX10_about 126 = .ok (.getfield 54, 3) := by decide +kernel
theorem dX10_about_129 : decode cX10_about 129 = .ok (.iload_n 1, 1) := by decide +kernel
theorem dX10_about_130 : decode cX10_about 130 = .ok (.baload, 1) := by decide +kernel
theorem dX10_about_131 : decode cX10_about 131 = .ok (.ifCond .eq 7, 3) := by decide +kernel
theorem dX10_about_134 : decode cX10_about 134 = .ok (.iconst 1, 1) := by decide +kernel
theorem dX10_about_135 : decode cX10_about 135 = .ok (.goto 4, 3) := by decide +kernel
theorem dX10_about_138 : decode cX10_about 138 = .ok (.iconst 0, 1) := by decide +kernel
theorem dX10_about_139 : decode cX10_about 139 = .ok (.ireturn, 1) := by decide +kernel
theorem dX10_about_140 : decode cX10_about 140 = .ok (.aload_n 0, 1) := by decide +kernel
theorem dX10_about_141 : decode cX10_about 141 = .ok (.getfield 57, 3) := by decide +kernel
theorem dX10_about_144 : decode cX10_about 144 = .ok (.iload_n 1, 1) := by decide +kernel
theorem dX10_about_145 : decode cX10_about 145 = .ok (.iaload, 1) := by decide +kernel
theorem dX10_about_146 : decode cX10_about 146 = .ok (.ireturn, 1) := by decide +kernel
theorem dX10_about_147 : decode cX10_about 147 = .ok (.iload 4, 2) := by decide +kernel
theorem dX10_about_149 : decode cX10_about 149 = .ok (.ifCond .eq 16, 3) := by decide +kernel
theorem dX10_about_152 : decode cX10_about 152 = .ok (.aload_n 0, 1) := by decide +kernel
theorem dX10_about_153 : decode cX10_about 153 = .ok (.getfield 60, 3) := by decide +kernel
theorem dX10_about_156 : decode cX10_about 156 = .ok (.iconst 2, 1) := by decide +kernel
theorem dX10_about_157 : decode cX10_about 157 = .ok (.iload_n 1, 1) := by decide +kernel
theorem dX10_about_158 : decode cX10_about 158 = .ok (.imul, 1) := by decide +kernel
theorem dX10_about_159 : decode cX10_about 159 = .ok (.iload_n 3, 1) := by decide +kernel
theorem dX10_about_160 : decode cX10_about 160 = .ok (.iadd, 1) := by decide +kernel
theorem dX10_about_161 : decode cX10_about 161 = .ok (.iaload, 1) := by decide +kernel
theorem dX10_about_162 : decode cX10_about 162 = .ok (.goto 4, 3) := by decide +kernel
theorem dX10_about_165 : decode cX10_about 165 = .ok (.iconst 0, 1) := by decide +kernel
theorem dX10_about_166 : decode cX10_about 166 = .ok (.ireturn, 1) := by decide +kernel
theorem dX10_about_167 : decode cX10_about 167 = .ok (.iload 4, 2) := by decide +kernel
theorem dX10_about_169 : decode cX10_about 169 = .ok (.ifCond .eq 16, 3) := by decide +kernel
theorem dX10_about_172 : decode cX10_about 172 = .ok (.aload_n 0, 1) := by decide +kernel
theorem dX10_about_173 : decode cX10_about 173 = .ok (.getfield 63, 3) := by decide +kernel
theorem dX10_about_176 : decode cX10_about 176 = .ok (.iconst 2, 1) := by decide +kernel
theorem dX10_about_177 : decode cX10_about 177 = .ok (.iload_n 1, 1) := by decide +kernel
theorem dX10_about_178 : decode cX10_about 178 = .ok (.imul, 1) := by decide +kernel
theorem dX10_about_179 : decode cX10_about 179 = .ok (.iload_n 3, 1) := by decide +kernel
theorem dX10_about_180 : decode cX10_about 180 = .ok (.iadd, 1) := by decide +kernel
theorem dX10_about_181 : decode cX10_about 181 = .ok (.iaload, 1) := by decide +kernel
theorem dX10_about_182 : decode cX10_about 182 = .ok (.goto 4, 3) := by decide +kernel
theorem dX10_about_185 : decode cX10_about 185 = .ok (.iconst 0, 1) := by decide +kernel
theorem dX10_about_186 : decode cX10_about 186 = .ok (.ireturn, 1) := by decide +kernel
theorem dX10_about_187 : decode cX10_about 187 = .ok (.iload 4, 2) := by decide +kernel
theorem dX10_about_189 : decode cX10_about 189 = .ok (.ifCond .eq 16, 3) := by decide +kernel
theorem dX10_about_192 : decode cX10_about 192 = .ok (.aload_n 0, 1) := by decide +kernel
theorem dX10_about_193 : decode cX10_about 193 = .ok (.getfield 66, 3) := by decide +kernel
theorem dX10_about_196 : decode cX10_about 196 = .ok (.iconst 2, 1) := by decide +kernel
theorem dX10_about_197 : decode cX10_about 197 = .ok (.iload_n 1, 1) := by decide +kernel
theorem dX10_about_198 : decode cX10_about 198 = .ok (.imul, 1) := by decide +kernel
theorem dX10_about_199 : decode cX10_about 199 = .ok (.iload_n 3, 1) := by decide +kernel
theorem dX10_about_200 : decode cX10_about 200 = .ok (.iadd, 1) := by decide +kernel
theorem dX10_about_201 : decode cX10_about 201 = .ok (.iaload, 1) := by decide +kernel
theorem dX10_about_202 : decode cX10_about 202 = .ok (.goto 4, 3) := by decide +kernel
theorem dX10_about_205 : decode cX10_about 205 = .ok (.iconst 0, 1) := by decide +kernel
theorem dX10_about_206 : decode cX10_about 206 = .ok (.ireturn, 1) := by decide +kernel
theorem dX10_dominates_0 : decode cX10_dominates 0 = .ok (.aload_n 0, 1) := by decide +kernel
theorem dX10_dominates_1 : decode cX10_dominates 1 = .ok (.iload_n 1, 1) := by decide +kernel
theorem dX10_dominates_2 : decode cX10_dominates 2 = .ok (.invokevirtual 139, 3) := by decide +kernel
theorem dX10_dominates_5 : decode cX10_dominates 5 = .ok (.ifCond .eq 24, 3) := by decide +kernel
theorem dX10_dominates_8 : decode cX10_dominates 8 = .ok (.aload_n 0, 1) := by decide +kernel
theorem dX10_dominates_9 : decode cX10_dominates 9 = .ok (.iload_n 2, 1) := by decide +kernel
theorem dX10_dominates_10 : decode cX10_dominates 10 = .ok (.invokevirtual 139, 3) := by decide +kernel
theorem dX10_dominates_13 : decode cX10_dominates 13 = .ok (.ifCond .eq 16, 3) := by decide +kernel
theorem dX10_dominates_16 : decode cX10_dominates 16 = .ok (.aload_n 0, 1) := by decide +kernel
theorem dX10_dominates_17 : decode cX10_dominates 17 = .ok (.iload_n 1, 1) := by decide +kernel
theorem dX10_dominates_18 : decode cX10_dominates 18 = .ok (.iload_n 2, 1) := by decide +kernel
theorem dX10_dominates_19 : decode cX10_dominates 19 = .ok (.invokevirtual 159, 3) := by decide +kernel
theorem dX10_dominates_22 : decode cX10_dominates 22 = .ok (.ifCond .eq 7, 3) := by decide +kernel
theorem dX10_dominates_25 : decode cX10_dominates 25 = .ok (.iconst 1, 1) := by decide +kernel
theorem dX10_dominates_26 : decode cX10_dominates 26 = .ok (.goto 4, 3) := by decide +kernel
theorem dX10_dominates_29 : decode cX10_dominates 29 = .ok (.iconst 0, 1) := by decide +kernel
theorem dX10_dominates_30 : decode cX10_dominates 30 = .ok (.ireturn, 1) := by decide +kernel
theorem dX10_inOrder_0 : decode cX10_inOrder 0 = .ok (.iconst 0, 1) := by decide +kernel
theorem dX10_inOrder_1 : decode cX10_inOrder 1 = .ok (.istore_n 3, 1) := by decide +kernel
theorem dX10_inOrder_2 : decode cX10_inOrder 2 = .ok (.iload_n 3, 1) := by decide +kernel
theorem dX10_inOrder_3 : decode cX10_inOrder 3 = .ok (.aload_n 0, 1) := by decide +kernel
theorem dX10_inOrder_4 : decode cX10_inOrder 4 = .ok (.getfield 131, 3) := by decide +kernel
theorem dX10_inOrder_7 : decode cX10_inOrder 7 = .ok (.if_icmp .ge 29, 3) := by decide +kernel
theorem dX10_inOrder_10 : decode cX10_inOrder 10 = .ok (.aload_n 0, 1) := by decide +kernel
theorem dX10_inOrder_11 : decode cX10_inOrder 11 = .ok (.getfield 91, 3) := by decide +kernel
theorem dX10_inOrder_14 : decode cX10_inOrder 14 = .ok (.iload_n 3, 1) := by decide +kernel
theorem dX10_inOrder_15 : decode cX10_inOrder 15 = .ok (.aload_n 0, 1) := by decide +kernel
theorem dX10_inOrder_16 : decode cX10_inOrder 16 = .ok (.iload_n 3, 1) := by decide +kernel
theorem dX10_inOrder_17 : decode cX10_inOrder 17 = .ok (.iload_n 1, 1) := by decide +kernel
theorem dX10_inOrder_18 : decode cX10_inOrder 18 = .ok (.invokevirtual 145, 3) := by decide +kernel
theorem dX10_inOrder_21 : decode cX10_inOrder 21 = .ok (.ifCond .ne 7, 3) := by decide +kernel
theorem dX10_inOrder_24 : decode cX10_inOrder 24 = .ok (.iconst 1, 1) := by decide +kernel
theorem dX10_inOrder_25 : decode cX10_inOrder 25 = .ok (.goto 4, 3) := by decide +kernel
theorem dX10_inOrder_28 : decode cX10_inOrder 28 = .ok (.iconst 0, 1) := by decide +kernel
theorem dX10_inOrder_29 : decode cX10_inOrder 29 = .ok (.bastore, 1) := by decide +kernel
theorem dX10_inOrder_30 : decode cX10_inOrder 30 = .ok (.iinc 3 1, 3) := by decide +kernel
theorem dX10_inOrder_33 : decode cX10_inOrder 33 = .ok (.goto (-31), 3) := by decide +kernel
theorem dX10_inOrder_36 : decode cX10_inOrder 36 = .ok (.iconst (-1), 1) := by decide +kernel
theorem dX10_inOrder_37 : decode cX10_inOrder 37 = .ok (.istore_n 3, 1) := by decide +kernel
theorem dX10_inOrder_38 : decode cX10_inOrder 38 = .ok (.iconst 0, 1) := by decide +kernel
theorem dX10_inOrder_39 : decode cX10_inOrder 39 = .ok (.istore 4, 2) := by decide +kernel
theorem dX10_inOrder_41 : decode cX10_inOrder 41 = .ok (.iload 4, 2) := by decide +kernel
theorem dX10_inOrder_43 : decode cX10_inOrder 43 = .ok (.iload_n 2, 1) := by decide +kernel
theorem dX10_inOrder_44 : decode cX10_inOrder 44 = .ok (.if_icmp .gt 123, 3) := by decide +kernel
theorem dX10_inOrder_47 : decode cX10_inOrder 47 = .ok (.iconst (-1), 1) := by decide +kernel
theorem dX10_inOrder_48 : decode cX10_inOrder 48 = .ok (.istore_n 3, 1) := by decide +kernel
theorem dX10_inOrder_49 : decode cX10_inOrder 49 = .ok (.aload_n 0, 1) := by decide +kernel
theorem dX10_inOrder_50 : decode cX10_inOrder 50 = .ok (.getfield 131, 3) := by decide +kernel
theorem dX10_inOrder_53 : decode cX10_inOrder 53 = .ok (.iconst 1, 1) := by decide +kernel
theorem dX10_inOrder_54 : decode cX10_inOrder 54 = .ok (.isub, 1) := by decide +kernel
theorem dX10_inOrder_55 : decode cX10_inOrder 55 = .ok (.istore 5, 2) := by decide +kernel
theorem dX10_inOrder_57 : decode cX10_inOrder 57 = .ok (.iload 5, 2) := by decide +kernel
theorem dX10_inOrder_59 : decode cX10_inOrder 59 = .ok (.ifCond .lt 89, 3) := by decide +kernel
theorem dX10_inOrder_62 : decode cX10_inOrder 62 = .ok (.aload_n 0, 1) := by decide +kernel
theorem dX10_inOrder_63 : decode cX10_inOrder 63 = .ok (.getfield 91, 3) := by decide +kernel
theorem dX10_inOrder_66 : decode cX10_inOrder 66 = .ok (.iload 5, 2) := by decide +kernel
theorem dX10_inOrder_68 : decode cX10_inOrder 68 = .ok (.baload, 1) := by decide +kernel
theorem dX10_inOrder_69 : decode cX10_inOrder 69 = .ok (.ifCond .ne 7, 3) := by decide +kernel
theorem dX10_inOrder_72 : decode cX10_inOrder 72 = .ok (.iconst 1, 1) := by decide +kernel
theorem dX10_inOrder_73 : decode cX10_inOrder 73 = .ok (.goto 4, 3) := by decide +kernel
theorem dX10_inOrder_76 : decode cX10_inOrder 76 = .ok (.iconst 0, 1) := by decide +kernel
theorem dX10_inOrder_77 : decode cX10_inOrder 77 = .ok (.istore 6, 2) := by decide +kernel
theorem dX10_inOrder_79 : decode cX10_inOrder 79 = .ok (.iconst 0, 1) := by decide +kernel
theorem dX10_inOrder_80 : decode cX10_inOrder 80 = .ok (.istore 7, 2) := by decide +kernel
theorem dX10_inOrder_82 : decode cX10_inOrder 82 = .ok (.iload 7, 2) := by decide +kernel
theorem dX10_inOrder_84 : decode cX10_inOrder 84 = .ok (.aload_n 0, 1) := by decide +kernel
theorem dX10_inOrder_85 : decode cX10_inOrder 85 = .ok (.getfield 131, 3) := by decide +kernel
theorem dX10_inOrder_88 : decode cX10_inOrder 88 = .ok (.if_icmp .ge 42, 3) := by decide +kernel
theorem dX10_inOrder_91 : decode cX10_inOrder 91 = .ok (.iload 6, 2) := by decide +kernel
theorem dX10_inOrder_93 : decode cX10_inOrder 93 = .ok (.ifCond .eq 28, 3) := by decide +kernel
theorem dX10_inOrder_96 : decode cX10_inOrder 96 = .ok (.aload_n 0, 1) := by decide +kernel
theorem dX10_inOrder_97 : decode cX10_inOrder 97 = .ok (.getfield 91, 3) := by decide +kernel
theorem dX10_inOrder_100 : decode cX10_inOrder 100 = .ok (.iload 7, 2) := by decide +kernel
theorem dX10_inOrder_102 : decode cX10_inOrder 102 = .ok (.baload, 1) := by decide +kernel
theorem dX10_inOrder_103 : decode cX10_inOrder 103 = .ok (.ifCond .ne 14, 3) := by decide +kernel
theorem dX10_inOrder_106 : decode cX10_inOrder 106 = .ok (.aload_n 0, 1) := by decide +kernel
theorem dX10_inOrder_107 : decode cX10_inOrder 107 = .ok (.iload 7, 2) := by decide +kernel
theorem dX10_inOrder_109 : decode cX10_inOrder 109 = .ok (.iload 5, 2) := by decide +kernel
theorem dX10_inOrder_111 : decode cX10_inOrder 111 = .ok (.invokevirtual 159, 3) := by decide +kernel
theorem dX10_inOrder_114 : decode cX10_inOrder 114 = .ok (.ifCond .ne 7, 3) := by decide +kernel
theorem dX10_inOrder_117 : decode cX10_inOrder 117 = .ok (.iconst 1, 1) := by decide +kernel
theorem dX10_inOrder_118 : decode cX10_inOrder 118 = .ok (.goto 4, 3) := by decide +kernel
theorem dX10_inOrder_121 : decode cX10_inOrder 121 = .ok (.iconst 0, 1) := by decide +kernel
theorem dX10_inOrder_122 : decode cX10_inOrder 122 = .ok (.istore 6, 2) := by decide +kernel
theorem dX10_inOrder_124 : decode cX10_inOrder 124 = .ok (.iinc 7 1, 3) := by decide +kernel
theorem dX10_inOrder_127 : decode cX10_inOrder 127 = .ok (.goto (-45), 3) := by decide +kernel
theorem dX10_inOrder_130 : decode cX10_inOrder 130 = .ok (.iload 6, 2) := by decide +kernel
theorem dX10_inOrder_132 : decode cX10_inOrder 132 = .ok (.ifCond .eq 8, 3) := by decide +kernel
theorem dX10_inOrder_135 : decode cX10_inOrder 135 = .ok (.iload 5, 2) := by decide +kernel
theorem dX10_inOrder_137 : decode cX10_inOrder 137 = .ok (.goto 4, 3) := by decide +kernel
theorem dX10_inOrder_140 : decode cX10_inOrder 140 = .ok (.iload_n 3, 1) := by decide +kernel
theorem dX10_inOrder_141 : decode cX10_inOrder 141 = .ok (.istore_n 3, 1) := by decide +kernel
theorem dX10_inOrder_142 : decode cX10_inOrder 142 = .ok (.iinc 5 (-1), 3) := by decide +kernel
theorem dX10_inOrder_145 : decode cX10_inOrder 145 = .ok (.goto (-88), 3) := by decide +kernel
theorem dX10_inOrder_148 : decode cX10_inOrder 148 = .ok (.iload_n 3, 1) := by decide +kernel
theorem dX10_inOrder_149 : decode cX10_inOrder 149 = .ok (.ifCond .ge 5, 3) := by decide +kernel
theorem dX10_inOrder_152 : decode cX10_inOrder 152 = .ok (.iconst (-1), 1) := by decide +kernel
theorem dX10_inOrder_153 : decode cX10_inOrder 153 = .ok (.ireturn, 1) := by decide +kernel
theorem dX10_inOrder_154 : decode cX10_inOrder 154 = .ok (.aload_n 0, 1) := by decide +kernel
theorem dX10_inOrder_155 : decode cX10_inOrder 155 = .ok (.getfield 91, 3) := by decide +kernel
theorem dX10_inOrder_158 : decode cX10_inOrder 158 = .ok (.iload_n 3, 1) := by decide +kernel
theorem dX10_inOrder_159 : decode cX10_inOrder 159 = .ok (.iconst 1, 1) := by decide +kernel
theorem dX10_inOrder_160 : decode cX10_inOrder 160 = .ok (.bastore, 1) := by decide +kernel
theorem dX10_inOrder_161 : decode cX10_inOrder 161 = .ok (.iinc 4 1, 3) := by decide +kernel
theorem dX10_inOrder_164 : decode cX10_inOrder 164 = .ok (.goto (-123), 3) := by decide +kernel
theorem dX10_inOrder_167 : decode cX10_inOrder 167 = .ok (.iload_n 3, 1) := by decide +kernel
theorem dX10_inOrder_168 : decode cX10_inOrder 168 = .ok (.ireturn, 1) := by decide +kernel
theorem dX10_order_0 : decode cX10_order 0 = .ok (.aload_n 0, 1) := by decide +kernel
theorem dX10_order_1 : decode cX10_order 1 = .ok (.iload_n 1, 1) := by decide +kernel
theorem dX10_order_2 : decode cX10_order 2 = .ok (.invokevirtual 134, 3) := by decide +kernel
theorem dX10_order_5 : decode cX10_order 5 = .ok (.ifCond .eq 25, 3) := by decide +kernel
theorem dX10_order_8 : decode cX10_order 8 = .ok (.iload_n 2, 1) := by decide +kernel
theorem dX10_order_9 : decode cX10_order 9 = .ok (.ifCond .lt 21, 3) := by decide +kernel
theorem dX10_order_12 : decode cX10_order 12 = .ok (.iload_n 2, 1) := by decide +kernel
theorem dX10_order_13 : decode cX10_order 13 = .ok (.aload_n 0, 1) := by decide +kernel
theorem dX10_order_14 : decode cX10_order 14 = .ok (.iload_n 1, 1) := by decide +kernel
theorem dX10_order_15 : decode cX10_order 15 = .ok (.invokevirtual 155, 3) := by decide +kernel
theorem dX10_order_18 : decode cX10_order 18 = .ok (.if_icmp .ge 12, 3) := by decide +kernel
theorem dX10_order_21 : decode cX10_order 21 = .ok (.aload_n 0, 1) := by decide +kernel
theorem dX10_order_22 : decode cX10_order 22 = .ok (.iload_n 1, 1) := by decide +kernel
theorem dX10_order_23 : decode cX10_order 23 = .ok (.iload_n 2, 1) := by decide +kernel
theorem dX10_order_24 : decode cX10_order 24 = .ok (.invokevirtual 162, 3) := by decide +kernel
theorem dX10_order_27 : decode cX10_order 27 = .ok (.goto 4, 3) := by decide +kernel
theorem dX10_order_30 : decode cX10_order 30 = .ok (.iconst (-1), 1) := by decide +kernel
theorem dX10_order_31 : decode cX10_order 31 = .ok (.ireturn, 1) := by decide +kernel
theorem dX10_takesAt_0 : decode cX10_takesAt 0 = .ok (.aload_n 0, 1) := by decide +kernel
theorem dX10_takesAt_1 : decode cX10_takesAt 1 = .ok (.getfield 60, 3) := by decide +kernel
theorem dX10_takesAt_4 : decode cX10_takesAt 4 = .ok (.iconst 2, 1) := by decide +kernel
theorem dX10_takesAt_5 : decode cX10_takesAt 5 = .ok (.iload_n 1, 1) := by decide +kernel
theorem dX10_takesAt_6 : decode cX10_takesAt 6 = .ok (.imul, 1) := by decide +kernel
theorem dX10_takesAt_7 : decode cX10_takesAt 7 = .ok (.iload_n 2, 1) := by decide +kernel
theorem dX10_takesAt_8 : decode cX10_takesAt 8 = .ok (.iadd, 1) := by decide +kernel
theorem dX10_takesAt_9 : decode cX10_takesAt 9 = .ok (.iaload, 1) := by decide +kernel
theorem dX10_takesAt_10 : decode cX10_takesAt 10 = .ok (.istore_n 3, 1) := by decide +kernel
theorem dX10_takesAt_11 : decode cX10_takesAt 11 = .ok (.iload_n 3, 1) := by decide +kernel
theorem dX10_takesAt_12 : decode cX10_takesAt 12 = .ok (.iconst (-1), 1) := by decide +kernel
theorem dX10_takesAt_13 : decode cX10_takesAt 13 = .ok (.if_icmp .eq 17, 3) := by decide +kernel
theorem dX10_takesAt_16 : decode cX10_takesAt 16 = .ok (.aload_n 0, 1) := by decide +kernel
theorem dX10_takesAt_17 : decode cX10_takesAt 17 = .ok (.aload_n 0, 1) := by decide +kernel
theorem dX10_takesAt_18 : decode cX10_takesAt 18 = .ok (.getfield 82, 3) := by decide +kernel
theorem dX10_takesAt_21 : decode cX10_takesAt 21 = .ok (.iload_n 2, 1) := by decide +kernel
theorem dX10_takesAt_22 : decode cX10_takesAt 22 = .ok (.iaload, 1) := by decide +kernel
theorem dX10_takesAt_23 : decode cX10_takesAt 23 = .ok (.iload_n 3, 1) := by decide +kernel
theorem dX10_takesAt_24 : decode cX10_takesAt 24 = .ok (.invokevirtual 121, 3) := by decide +kernel
theorem dX10_takesAt_27 : decode cX10_takesAt 27 = .ok (.ifCond .eq 7, 3) := by decide +kernel
theorem dX10_takesAt_30 : decode cX10_takesAt 30 = .ok (.iconst 1, 1) := by decide +kernel
theorem dX10_takesAt_31 : decode cX10_takesAt 31 = .ok (.goto 4, 3) := by decide +kernel
theorem dX10_takesAt_34 : decode cX10_takesAt 34 = .ok (.iconst 0, 1) := by decide +kernel
theorem dX10_takesAt_35 : decode cX10_takesAt 35 = .ok (.istore 4, 2) := by decide +kernel
theorem dX10_takesAt_37 : decode cX10_takesAt 37 = .ok (.iload 4, 2) := by decide +kernel
theorem dX10_takesAt_39 : decode cX10_takesAt 39 = .ok (.ifCond .eq 49, 3) := by decide +kernel
theorem dX10_takesAt_42 : decode cX10_takesAt 42 = .ok (.aload_n 0, 1) := by decide +kernel
theorem dX10_takesAt_43 : decode cX10_takesAt 43 = .ok (.getfield 85, 3) := by decide +kernel
theorem dX10_takesAt_46 : decode cX10_takesAt 46 = .ok (.iload_n 2, 1) := by decide +kernel
theorem dX10_takesAt_47 : decode cX10_takesAt 47 = .ok (.laload, 1) := by decide +kernel
theorem dX10_takesAt_48 : decode cX10_takesAt 48 = .ok (.aload_n 0, 1) := by decide +kernel
theorem dX10_takesAt_49 : decode cX10_takesAt 49 = .ok (.getfield 63, 3) := by decide +kernel
theorem dX10_takesAt_52 : decode cX10_takesAt 52 = .ok (.iconst 2, 1) := by decide +kernel
theorem dX10_takesAt_53 : decode cX10_takesAt 53 = .ok (.iload_n 1, 1) := by decide +kernel
theorem dX10_takesAt_54 : decode cX10_takesAt 54 = .ok (.imul, 1) := by decide +kernel
theorem dX10_takesAt_55 : decode cX10_takesAt 55 = .ok (.iload_n 2, 1) := by decide +kernel
theorem dX10_takesAt_56 : decode cX10_takesAt 56 = .ok (.iadd, 1) := by decide +kernel
theorem dX10_takesAt_57 : decode cX10_takesAt 57 = .ok (.iaload, 1) := by decide +kernel
theorem dX10_takesAt_58 : decode cX10_takesAt 58 = .ok (.i2l, 1) := by decide +kernel
theorem dX10_takesAt_59 : decode cX10_takesAt 59 = .ok (.lcmp, 1) := by decide +kernel
theorem dX10_takesAt_60 : decode cX10_takesAt 60 = .ok (.ifCond .lt 28, 3) := by decide +kernel
theorem dX10_takesAt_63 : decode cX10_takesAt 63 = .ok (.aload_n 0, 1) := by decide +kernel
theorem dX10_takesAt_64 : decode cX10_takesAt 64 = .ok (.getfield 85, 3) := by decide +kernel
theorem dX10_takesAt_67 : decode cX10_takesAt 67 = .ok (.iload_n 2, 1) := by decide +kernel
theorem dX10_takesAt_68 : decode cX10_takesAt 68 = .ok (.laload, 1) := by decide +kernel
theorem dX10_takesAt_69 : decode cX10_takesAt 69 = .ok (.aload_n 0, 1) := by decide +kernel
theorem dX10_takesAt_70 : decode cX10_takesAt 70 = .ok (.getfield 66, 3) := by decide +kernel
theorem dX10_takesAt_73 : decode cX10_takesAt 73 = .ok (.iconst 2, 1) := by decide +kernel
theorem dX10_takesAt_74 : decode cX10_takesAt 74 = .ok (.iload_n 1, 1) := by decide +kernel
theorem dX10_takesAt_75 : decode cX10_takesAt 75 = .ok (.imul, 1) := by decide +kernel
theorem dX10_takesAt_76 : decode cX10_takesAt 76 = .ok (.iload_n 2, 1) := by decide +kernel
theorem dX10_takesAt_77 : decode cX10_takesAt 77 = .ok (.iadd, 1) := by decide +kernel
theorem dX10_takesAt_78 : decode cX10_takesAt 78 = .ok (.iaload, 1) := by decide +kernel
theorem dX10_takesAt_79 : decode cX10_takesAt 79 = .ok (.i2l, 1) := by decide +kernel
theorem dX10_takesAt_80 : decode cX10_takesAt 80 = .ok (.lcmp, 1) := by decide +kernel
theorem dX10_takesAt_81 : decode cX10_takesAt 81 = .ok (.ifCond .gt 7, 3) := by decide +kernel
theorem dX10_takesAt_84 : decode cX10_takesAt 84 = .ok (.iconst 1, 1) := by decide +kernel
theorem dX10_takesAt_85 : decode cX10_takesAt 85 = .ok (.goto 4, 3) := by decide +kernel
theorem dX10_takesAt_88 : decode cX10_takesAt 88 = .ok (.iconst 0, 1) := by decide +kernel
theorem dX10_takesAt_89 : decode cX10_takesAt 89 = .ok (.ireturn, 1) := by decide +kernel
theorem dX10_takes_0 : decode cX10_takes 0 = .ok (.iconst 1, 1) := by decide +kernel
theorem dX10_takes_1 : decode cX10_takes 1 = .ok (.istore_n 2, 1) := by decide +kernel
theorem dX10_takes_2 : decode cX10_takes 2 = .ok (.iconst 0, 1) := by decide +kernel
theorem dX10_takes_3 : decode cX10_takes 3 = .ok (.istore_n 3, 1) := by decide +kernel
theorem dX10_takes_4 : decode cX10_takes 4 = .ok (.iload_n 3, 1) := by decide +kernel
theorem dX10_takes_5 : decode cX10_takes 5 = .ok (.aload_n 0, 1) := by decide +kernel
theorem dX10_takes_6 : decode cX10_takes 6 = .ok (.getfield 29, 3) := by decide +kernel
theorem dX10_takes_9 : decode cX10_takes 9 = .ok (.aload_n 0, 1) := by decide +kernel
theorem dX10_takes_10 : decode cX10_takes 10 = .ok (.getfield 45, 3) := by decide +kernel
theorem dX10_takes_13 : decode cX10_takes 13 = .ok (.iload_n 1, 1) := by decide +kernel
theorem dX10_takes_14 : decode cX10_takes 14 = .ok (.iaload, 1) := by decide +kernel
theorem dX10_takes_15 : decode cX10_takes 15 = .ok (.iaload, 1) := by decide +kernel
theorem dX10_takes_16 : decode cX10_takes 16 = .ok (.if_icmp .ge 28, 3) := by decide +kernel
theorem dX10_takes_19 : decode cX10_takes 19 = .ok (.iload_n 2, 1) := by decide +kernel
theorem dX10_takes_20 : decode cX10_takes 20 = .ok (.ifCond .eq 16, 3) := by decide +kernel
theorem dX10_takes_23 : decode cX10_takes 23 = .ok (.aload_n 0, 1) := by decide +kernel
theorem dX10_takes_24 : decode cX10_takes 24 = .ok (.iload_n 1, 1) := by decide +kernel
theorem dX10_takes_25 : decode cX10_takes 25 = .ok (.iload_n 3, 1) := by decide +kernel
theorem dX10_takes_26 : decode cX10_takes 26 = .ok (.invokevirtual 165, 3) := by decide +kernel
theorem dX10_takes_29 : decode cX10_takes 29 = .ok (.ifCond .eq 7, 3) := by decide +kernel
theorem dX10_takes_32 : decode cX10_takes 32 = .ok (.iconst 1, 1) := by decide +kernel
theorem dX10_takes_33 : decode cX10_takes 33 = .ok (.goto 4, 3) := by decide +kernel
theorem dX10_takes_36 : decode cX10_takes 36 = .ok (.iconst 0, 1) := by decide +kernel
theorem dX10_takes_37 : decode cX10_takes 37 = .ok (.istore_n 2, 1) := by decide +kernel
theorem dX10_takes_38 : decode cX10_takes 38 = .ok (.iinc 3 1, 3) := by decide +kernel
theorem dX10_takes_41 : decode cX10_takes 41 = .ok (.goto (-37), 3) := by decide +kernel
theorem dX10_takes_44 : decode cX10_takes 44 = .ok (.iload_n 2, 1) := by decide +kernel
theorem dX10_takes_45 : decode cX10_takes 45 = .ok (.ireturn, 1) := by decide +kernel
theorem dX10_isOffered_0 : decode cX10_isOffered 0 = .ok (.aload_n 0, 1) := by decide +kernel
theorem dX10_isOffered_1 : decode cX10_isOffered 1 = .ok (.iload_n 1, 1) := by decide +kernel
theorem dX10_isOffered_2 : decode cX10_isOffered 2 = .ok (.iload_n 2, 1) := by decide +kernel
theorem dX10_isOffered_3 : decode cX10_isOffered 3 = .ok (.invokevirtual 145, 3) := by decide +kernel
theorem dX10_isOffered_6 : decode cX10_isOffered 6 = .ok (.ifCond .eq 37, 3) := by decide +kernel
theorem dX10_isOffered_9 : decode cX10_isOffered 9 = .ok (.aload_n 0, 1) := by decide +kernel
theorem dX10_isOffered_10 : decode cX10_isOffered 10 = .ok (.getfield 54, 3) := by decide +kernel
theorem dX10_isOffered_13 : decode cX10_isOffered 13 = .ok (.iload_n 1, 1) := by decide +kernel
theorem dX10_isOffered_14 : decode cX10_isOffered 14 = .ok (.baload, 1) := by decide +kernel
theorem dX10_isOffered_15 : decode cX10_isOffered 15 = .ok (.ifCond .ne 28, 3) := by decide +kernel
theorem dX10_isOffered_18 : decode cX10_isOffered 18 = .ok (.aload_n 0, 1) := by decide +kernel
theorem dX10_isOffered_19 : decode cX10_isOffered 19 = .ok (.iload_n 1, 1) := by decide +kernel
theorem dX10_isOffered_20 : decode cX10_isOffered 20 = .ok (.invokevirtual 168, 3) := by decide +kernel
theorem dX10_isOffered_23 : decode cX10_isOffered 23 = .ok (.ifCond .eq 20, 3) := by decide +kernel
theorem dX10_isOffered_26 : decode cX10_isOffered 26 = .ok (.iload_n 3, 1) := by decide +kernel
theorem dX10_isOffered_27 : decode cX10_isOffered 27 = .ok (.ifCond .lt 12, 3) := by decide +kernel
theorem dX10_isOffered_30 : decode cX10_isOffered 30 = .ok (.aload_n 0, 1) := by decide +kernel
theorem dX10_isOffered_31 : decode cX10_isOffered 31 = .ok (.iload_n 3, 1) := by decide +kernel
theorem dX10_isOffered_32 : decode cX10_isOffered 32 = .ok (.iload_n 1, 1) := by decide +kernel
theorem dX10_isOffered_33 : decode cX10_isOffered 33 = .ok (.invokevirtual 159, 3) := by decide +kernel
theorem dX10_isOffered_36 : decode cX10_isOffered 36 = .ok (.ifCond .eq 7, 3) := by decide +kernel
theorem dX10_isOffered_39 : decode cX10_isOffered 39 = .ok (.iconst 1, 1) := by decide +kernel
theorem dX10_isOffered_40 : decode cX10_isOffered 40 = .ok (.goto 4, 3) := by decide +kernel
theorem dX10_isOffered_43 : decode cX10_isOffered 43 = .ok (.iconst 0, 1) := by decide +kernel
theorem dX10_isOffered_44 : decode cX10_isOffered 44 = .ok (.ireturn, 1) := by decide +kernel
theorem dX10_offered_0 : decode cX10_offered 0 = .ok (.iconst 0, 1) := by decide +kernel
theorem dX10_offered_1 : decode cX10_offered 1 = .ok (.istore_n 3, 1) := by decide +kernel
theorem dX10_offered_2 : decode cX10_offered 2 = .ok (.iconst 0, 1) := by decide +kernel
theorem dX10_offered_3 : decode cX10_offered 3 = .ok (.istore 4, 2) := by decide +kernel
theorem dX10_offered_5 : decode cX10_offered 5 = .ok (.iload 4, 2) := by decide +kernel
theorem dX10_offered_7 : decode cX10_offered 7 = .ok (.aload_n 0, 1) := by decide +kernel
theorem dX10_offered_8 : decode cX10_offered 8 = .ok (.getfield 131, 3) := by decide +kernel
theorem dX10_offered_11 : decode cX10_offered 11 = .ok (.if_icmp .ge 28, 3) := by decide +kernel
theorem dX10_offered_14 : decode cX10_offered 14 = .ok (.iload_n 3, 1) := by decide +kernel
theorem dX10_offered_15 : decode cX10_offered 15 = .ok (.aload_n 0, 1) := by decide +kernel
theorem dX10_offered_16 : decode cX10_offered 16 = .ok (.iload 4, 2) := by decide +kernel
theorem dX10_offered_18 : decode cX10_offered 18 = .ok (.iload_n 1, 1) := by decide +kernel
theorem dX10_offered_19 : decode cX10_offered 19 = .ok (.iload_n 2, 1) := by decide +kernel
theorem dX10_offered_20 : decode cX10_offered 20 = .ok (.invokevirtual 171, 3) := by decide +kernel
theorem dX10_offered_23 : decode cX10_offered 23 = .ok (.ifCond .eq 7, 3) := by decide +kernel
theorem dX10_offered_26 : decode cX10_offered 26 = .ok (.iconst 1, 1) := by decide +kernel
theorem dX10_offered_27 : decode cX10_offered 27 = .ok (.goto 4, 3) := by decide +kernel
theorem dX10_offered_30 : decode cX10_offered 30 = .ok (.iconst 0, 1) := by decide +kernel
theorem dX10_offered_31 : decode cX10_offered 31 = .ok (.iadd, 1) := by decide +kernel
theorem dX10_offered_32 : decode cX10_offered 32 = .ok (.istore_n 3, 1) := by decide +kernel
theorem dX10_offered_33 : decode cX10_offered 33 = .ok (.iinc 4 1, 3) := by decide +kernel
theorem dX10_offered_36 : decode cX10_offered 36 = .ok (.goto (-31), 3) := by decide +kernel
theorem dX10_offered_39 : decode cX10_offered 39 = .ok (.iload_n 3, 1) := by decide +kernel
theorem dX10_offered_40 : decode cX10_offered 40 = .ok (.ireturn, 1) := by decide +kernel
theorem dX10_chosen_0 : decode cX10_chosen 0 = .ok (.iconst (-1), 1) := by decide +kernel
theorem dX10_chosen_1 : decode cX10_chosen 1 = .ok (.istore_n 3, 1) := by decide +kernel
theorem dX10_chosen_2 : decode cX10_chosen 2 = .ok (.iconst 0, 1) := by decide +kernel
theorem dX10_chosen_3 : decode cX10_chosen 3 = .ok (.istore 4, 2) := by decide +kernel
theorem dX10_chosen_5 : decode cX10_chosen 5 = .ok (.iload 4, 2) := by decide +kernel
theorem dX10_chosen_7 : decode cX10_chosen 7 = .ok (.aload_n 0, 1) := by decide +kernel
theorem dX10_chosen_8 : decode cX10_chosen 8 = .ok (.getfield 131, 3) := by decide +kernel
theorem dX10_chosen_11 : decode cX10_chosen 11 = .ok (.if_icmp .ge 94, 3) := by decide +kernel
theorem dX10_chosen_14 : decode cX10_chosen 14 = .ok (.aload_n 0, 1) := by decide +kernel
theorem dX10_chosen_15 : decode cX10_chosen 15 = .ok (.iload 4, 2) := by decide +kernel
theorem dX10_chosen_17 : decode cX10_chosen 17 = .ok (.iload_n 1, 1) := by decide +kernel
theorem dX10_chosen_18 : decode cX10_chosen 18 = .ok (.iload_n 2, 1) := by decide +kernel
theorem dX10_chosen_19 : decode cX10_chosen 19 = .ok (.invokevirtual 171, 3) := by decide +kernel
theorem dX10_chosen_22 : decode cX10_chosen 22 = .ok (.ifCond .eq 77, 3) := by decide +kernel
theorem dX10_chosen_25 : decode cX10_chosen 25 = .ok (.iconst 1, 1) := by decide +kernel
theorem dX10_chosen_26 : decode cX10_chosen 26 = .ok (.istore 5, 2) := by decide +kernel
theorem dX10_chosen_28 : decode cX10_chosen 28 = .ok (.iconst 0, 1) := by decide +kernel
theorem dX10_chosen_29 : decode cX10_chosen 29 = .ok (.istore 6, 2) := by decide +kernel
theorem dX10_chosen_31 : decode cX10_chosen 31 = .ok (.iload 6, 2) := by decide +kernel
theorem dX10_chosen_33 : decode cX10_chosen 33 = .ok (.aload_n 0, 1) := by decide +kernel
theorem dX10_chosen_34 : decode cX10_chosen 34 = .ok (.getfield 131, 3) := by decide +kernel
theorem dX10_chosen_37 : decode cX10_chosen 37 = .ok (.if_icmp .ge 50, 3) := by decide +kernel
theorem dX10_chosen_40 : decode cX10_chosen 40 = .ok (.iload 5, 2) := by decide +kernel
theorem dX10_chosen_42 : decode cX10_chosen 42 = .ok (.ifCond .eq 36, 3) := by decide +kernel
theorem dX10_chosen_45 : decode cX10_chosen 45 = .ok (.iload 6, 2) := by decide +kernel
theorem dX10_chosen_47 : decode cX10_chosen 47 = .ok (.iload 4, 2) := by decide +kernel
theorem dX10_chosen_49 : decode cX10_chosen 49 = .ok (.if_icmp .eq 25, 3) := by decide +kernel
theorem dX10_chosen_52 : decode cX10_chosen 52 = .ok (.aload_n 0, 1) := by decide +kernel
theorem dX10_chosen_53 : decode cX10_chosen 53 = .ok (.iload 6, 2) := by decide +kernel
theorem dX10_chosen_55 : decode cX10_chosen 55 = .ok (.iload_n 1, 1) := by decide +kernel
theorem dX10_chosen_56 : decode cX10_chosen 56 = .ok (.iload_n 2, 1) := by decide +kernel
theorem dX10_chosen_57 : decode cX10_chosen 57 = .ok (.invokevirtual 171, 3) := by decide +kernel
theorem dX10_chosen_60 : decode cX10_chosen 60 = .ok (.ifCond .eq 14, 3) := by decide +kernel
theorem dX10_chosen_63 : decode cX10_chosen 63 = .ok (.aload_n 0, 1) := by decide +kernel
theorem dX10_chosen_64 : decode cX10_chosen 64 = .ok (.iload 4, 2) := by decide +kernel
theorem dX10_chosen_66 : decode cX10_chosen 66 = .ok (.iload 6, 2) := by decide +kernel
theorem dX10_chosen_68 : decode cX10_chosen 68 = .ok (.invokevirtual 159, 3) := by decide +kernel
theorem dX10_chosen_71 : decode cX10_chosen 71 = .ok (.ifCond .eq 7, 3) := by decide +kernel
theorem dX10_chosen_74 : decode cX10_chosen 74 = .ok (.iconst 1, 1) := by decide +kernel
theorem dX10_chosen_75 : decode cX10_chosen 75 = .ok (.goto 4, 3) := by decide +kernel
theorem dX10_chosen_78 : decode cX10_chosen 78 = .ok (.iconst 0, 1) := by decide +kernel
theorem dX10_chosen_79 : decode cX10_chosen 79 = .ok (.istore 5, 2) := by decide +kernel
theorem dX10_chosen_81 : decode cX10_chosen 81 = .ok (.iinc 6 1, 3) := by decide +kernel
theorem dX10_chosen_84 : decode cX10_chosen 84 = .ok (.goto (-53), 3) := by decide +kernel
theorem dX10_chosen_87 : decode cX10_chosen 87 = .ok (.iload 5, 2) := by decide +kernel
theorem dX10_chosen_89 : decode cX10_chosen 89 = .ok (.ifCond .eq 8, 3) := by decide +kernel
theorem dX10_chosen_92 : decode cX10_chosen 92 = .ok (.iload 4, 2) := by decide +kernel
theorem dX10_chosen_94 : decode cX10_chosen 94 = .ok (.goto 4, 3) := by decide +kernel
theorem dX10_chosen_97 : decode cX10_chosen 97 = .ok (.iload_n 3, 1) := by decide +kernel
theorem dX10_chosen_98 : decode cX10_chosen 98 = .ok (.istore_n 3, 1) := by decide +kernel
theorem dX10_chosen_99 : decode cX10_chosen 99 = .ok (.iinc 4 1, 3) := by decide +kernel
theorem dX10_chosen_102 : decode cX10_chosen 102 = .ok (.goto (-97), 3) := by decide +kernel
theorem dX10_chosen_105 : decode cX10_chosen 105 = .ok (.iload_n 3, 1) := by decide +kernel
theorem dX10_chosen_106 : decode cX10_chosen 106 = .ok (.ireturn, 1) := by decide +kernel
theorem dX10_tellRow_0 : decode cX10_tellRow 0 = .ok (.iconst 1, 1) := by decide +kernel
theorem dX10_tellRow_1 : decode cX10_tellRow 1 = .ok (.istore_n 2, 1) := by decide +kernel
theorem dX10_tellRow_2 : decode cX10_tellRow 2 = .ok (.iconst 0, 1) := by decide +kernel
theorem dX10_tellRow_3 : decode cX10_tellRow 3 = .ok (.istore_n 3, 1) := by decide +kernel
theorem dX10_tellRow_4 : decode cX10_tellRow 4 = .ok (.iload_n 3, 1) := by decide +kernel
theorem dX10_tellRow_5 : decode cX10_tellRow 5 = .ok (.aload_n 0, 1) := by decide +kernel
theorem dX10_tellRow_6 : decode cX10_tellRow 6 = .ok (.getfield 29, 3) := by decide +kernel
theorem dX10_tellRow_9 : decode cX10_tellRow 9 = .ok (.iload_n 1, 1) := by decide +kernel
theorem dX10_tellRow_10 : decode cX10_tellRow 10 = .ok (.iaload, 1) := by decide +kernel
theorem dX10_tellRow_11 : decode cX10_tellRow 11 = .ok (.if_icmp .ge 89, 3) := by decide +kernel
theorem dX10_tellRow_14 : decode cX10_tellRow 14 = .ok (.iload_n 2, 1) := by decide +kernel
theorem dX10_tellRow_15 : decode cX10_tellRow 15 = .ok (.ifCond .eq 16, 3) := by decide +kernel
theorem dX10_tellRow_18 : decode cX10_tellRow 18 = .ok (.aload_n 0, 1) := by decide +kernel
theorem dX10_tellRow_19 : decode cX10_tellRow 19 = .ok (.getfield 72, 3) := by decide +kernel
theorem dX10_tellRow_22 : decode cX10_tellRow 22 = .ok (.iload_n 3, 1) := by decide +kernel
theorem dX10_tellRow_23 : decode cX10_tellRow 23 = .ok (.iaload, 1) := by decide +kernel
theorem dX10_tellRow_24 : decode cX10_tellRow 24 = .ok (.ifCond .lt 7, 3) := by decide +kernel
theorem dX10_tellRow_27 : decode cX10_tellRow 27 = .ok (.iconst 1, 1) := by decide +kernel
theorem dX10_tellRow_28 : decode cX10_tellRow 28 = .ok (.goto 4, 3) := by decide +kernel
theorem dX10_tellRow_31 : decode cX10_tellRow 31 = .ok (.iconst 0, 1) := by decide +kernel
theorem dX10_tellRow_32 : decode cX10_tellRow 32 = .ok (.istore_n 2, 1) := by decide +kernel
theorem dX10_tellRow_33 : decode cX10_tellRow 33 = .ok (.aload_n 0, 1) := by decide +kernel
theorem dX10_tellRow_34 : decode cX10_tellRow 34 = .ok (.getfield 82, 3) := by decide +kernel
theorem dX10_tellRow_37 : decode cX10_tellRow 37 = .ok (.iload_n 3, 1) := by decide +kernel
theorem dX10_tellRow_38 : decode cX10_tellRow 38 = .ok (.aload_n 0, 1) := by decide +kernel
theorem dX10_tellRow_39 : decode cX10_tellRow 39 = .ok (.getfield 72, 3) := by decide +kernel
theorem dX10_tellRow_42 : decode cX10_tellRow 42 = .ok (.iload_n 3, 1) := by decide +kernel
theorem dX10_tellRow_43 : decode cX10_tellRow 43 = .ok (.iaload, 1) := by decide +kernel
theorem dX10_tellRow_44 : decode cX10_tellRow 44 = .ok (.ifCond .lt 17, 3) := by decide +kernel
theorem dX10_tellRow_47 : decode cX10_tellRow 47 = .ok (.aload_n 0, 1) := by decide +kernel
theorem dX10_tellRow_48 : decode cX10_tellRow 48 = .ok (.getfield 23, 3) := by decide +kernel
theorem dX10_tellRow_51 : decode cX10_tellRow 51 = .ok (.aload_n 0, 1) := by decide +kernel
theorem dX10_tellRow_52 : decode cX10_tellRow 52 = .ok (.getfield 72, 3) := by decide +kernel
theorem dX10_tellRow_55 : decode cX10_tellRow 55 = .ok (.iload_n 3, 1) := by decide +kernel
theorem dX10_tellRow_56 : decode cX10_tellRow 56 = .ok (.iaload, 1) := by decide +kernel
theorem dX10_tellRow_57 : decode cX10_tellRow 57 = .ok (.iaload, 1) := by decide +kernel
theorem dX10_tellRow_58 : decode cX10_tellRow 58 = .ok (.goto 4, 3) := by decide +kernel
theorem dX10_tellRow_61 : decode cX10_tellRow 61 = .ok (.iconst 0, 1) := by decide +kernel
theorem dX10_tellRow_62 : decode cX10_tellRow 62 = .ok (.iastore, 1) := by decide +kernel
theorem dX10_tellRow_63 : decode cX10_tellRow 63 = .ok (.aload_n 0, 1) := by decide +kernel
theorem dX10_tellRow_64 : decode cX10_tellRow 64 = .ok (.getfield 85, 3) := by decide +kernel
theorem dX10_tellRow_67 : decode cX10_tellRow 67 = .ok (.iload_n 3, 1) := by decide +kernel
theorem dX10_tellRow_68 : decode cX10_tellRow 68 = .ok (.aload_n 0, 1) := by decide +kernel
theorem dX10_tellRow_69 : decode cX10_tellRow 69 = .ok (.getfield 72, 3) := by decide +kernel
theorem dX10_tellRow_72 : decode cX10_tellRow 72 = .ok (.iload_n 3, 1) := by decide +kernel
theorem dX10_tellRow_73 : decode cX10_tellRow 73 = .ok (.iaload, 1) := by decide +kernel
theorem dX10_tellRow_74 : decode cX10_tellRow 74 = .ok (.ifCond .lt 18, 3) := by decide +kernel
theorem dX10_tellRow_77 : decode cX10_tellRow 77 = .ok (.aload_n 0, 1) := by decide +kernel
theorem dX10_tellRow_78 : decode cX10_tellRow 78 = .ok (.getfield 26, 3) := by decide +kernel
theorem dX10_tellRow_81 : decode cX10_tellRow 81 = .ok (.aload_n 0, 1) := by decide +kernel
theorem dX10_tellRow_82 : decode cX10_tellRow 82 = .ok (.getfield 72, 3) := by decide +kernel
theorem dX10_tellRow_85 : decode cX10_tellRow 85 = .ok (.iload_n 3, 1) := by decide +kernel
theorem dX10_tellRow_86 : decode cX10_tellRow 86 = .ok (.iaload, 1) := by decide +kernel
theorem dX10_tellRow_87 : decode cX10_tellRow 87 = .ok (.iaload, 1) := by decide +kernel
theorem dX10_tellRow_88 : decode cX10_tellRow 88 = .ok (.i2l, 1) := by decide +kernel
theorem dX10_tellRow_89 : decode cX10_tellRow 89 = .ok (.goto 4, 3) := by decide +kernel
theorem dX10_tellRow_92 : decode cX10_tellRow 92 = .ok (.lconst 0, 1) := by decide +kernel
theorem dX10_tellRow_93 : decode cX10_tellRow 93 = .ok (.lastore, 1) := by decide +kernel
theorem dX10_tellRow_94 : decode cX10_tellRow 94 = .ok (.iinc 3 1, 3) := by decide +kernel
theorem dX10_tellRow_97 : decode cX10_tellRow 97 = .ok (.goto (-93), 3) := by decide +kernel
theorem dX10_tellRow_100 : decode cX10_tellRow 100 = .ok (.iload_n 2, 1) := by decide +kernel
theorem dX10_tellRow_101 : decode cX10_tellRow 101 = .ok (.ireturn, 1) := by decide +kernel
theorem dX10_piece_0 : decode cX10_piece 0 = .ok (.ldc2_w 174, 3) := by decide +kernel
theorem dX10_piece_3 : decode cX10_piece 3 = .ok (.lstore_n 3, 1) := by decide +kernel
theorem dX10_piece_4 : decode cX10_piece 4 = .ok (.iconst 0, 1) := by decide +kernel
theorem dX10_piece_5 : decode cX10_piece 5 = .ok (.istore 5, 2) := by decide +kernel
theorem dX10_piece_7 : decode cX10_piece 7 = .ok (.iload 5, 2) := by decide +kernel
theorem dX10_piece_9 : decode cX10_piece 9 = .ok (.aload_n 0, 1) := by decide +kernel
theorem dX10_piece_10 : decode cX10_piece 10 = .ok (.getfield 131, 3) := by decide +kernel
theorem dX10_piece_13 : decode cX10_piece 13 = .ok (.if_icmp .ge 101, 3) := by decide +kernel
theorem dX10_piece_16 : decode cX10_piece 16 = .ok (.aload_n 0, 1) := by decide +kernel
theorem dX10_piece_17 : decode cX10_piece 17 = .ok (.iload 5, 2) := by decide +kernel
theorem dX10_piece_19 : decode cX10_piece 19 = .ok (.iload_n 1, 1) := by decide +kernel
theorem dX10_piece_20 : decode cX10_piece 20 = .ok (.invokevirtual 145, 3) := by decide +kernel
theorem dX10_piece_23 : decode cX10_piece 23 = .ok (.ifCond .eq 85, 3) := by decide +kernel
theorem dX10_piece_26 : decode cX10_piece 26 = .ok (.aload_n 0, 1) := by decide +kernel
theorem dX10_piece_27 : decode cX10_piece 27 = .ok (.getfield 63, 3) := by decide +kernel
theorem dX10_piece_30 : decode cX10_piece 30 = .ok (.iconst 2, 1) := by decide +kernel
theorem dX10_piece_31 : decode cX10_piece 31 = .ok (.iload 5, 2) := by decide +kernel
theorem dX10_piece_33 : decode cX10_piece 33 = .ok (.imul, 1) := by decide +kernel
theorem dX10_piece_34 : decode cX10_piece 34 = .ok (.iload_n 2, 1) := by decide +kernel
theorem dX10_piece_35 : decode cX10_piece 35 = .ok (.iadd, 1) := by decide +kernel
theorem dX10_piece_36 : decode cX10_piece 36 = .ok (.iaload, 1) := by decide +kernel
theorem dX10_piece_37 : decode cX10_piece 37 = .ok (.i2l, 1) := by decide +kernel
theorem dX10_piece_38 : decode cX10_piece 38 = .ok (.lstore 6, 2) := by decide +kernel
theorem dX10_piece_40 : decode cX10_piece 40 = .ok (.aload_n 0, 1) := by decide +kernel
theorem dX10_piece_41 : decode cX10_piece 41 = .ok (.getfield 66, 3) := by decide +kernel
theorem dX10_piece_44 : decode cX10_piece 44 = .ok (.iconst 2, 1) := by decide +kernel
theorem dX10_piece_45 : decode cX10_piece 45 = .ok (.iload 5, 2) := by decide +kernel
theorem dX10_piece_47 : decode cX10_piece 47 = .ok (.imul, 1) := by decide +kernel
theorem dX10_piece_48 : decode cX10_piece 48 = .ok (.iload_n 2, 1) := by decide +kernel
theorem dX10_piece_49 : decode cX10_piece 49 = .ok (.iadd, 1) := by decide +kernel
theorem dX10_piece_50 : decode cX10_piece 50 = .ok (.iaload, 1) := by decide +kernel
theorem dX10_piece_51 : decode cX10_piece 51 = .ok (.i2l, 1) := by decide +kernel
theorem dX10_piece_52 : decode cX10_piece 52 = .ok (.lconst 1, 1) := by decide +kernel
theorem dX10_piece_53 : decode cX10_piece 53 = .ok (.ladd, 1) := by decide +kernel
theorem dX10_piece_54 : decode cX10_piece 54 = .ok (.lstore 8, 2) := by decide +kernel
theorem dX10_piece_56 : decode cX10_piece 56 = .ok (.lload 6, 2) := by decide +kernel
theorem dX10_piece_58 : decode cX10_piece 58 = .ok (.aload_n 0, 1) := by decide +kernel
theorem dX10_piece_59 : decode cX10_piece 59 = .ok (.getfield 85, 3) := by decide +kernel
theorem dX10_piece_62 : decode cX10_piece 62 = .ok (.iload_n 2, 1) := by decide +kernel
theorem dX10_piece_63 : decode cX10_piece 63 = .ok (.laload, 1) := by decide +kernel
theorem dX10_piece_64 : decode cX10_piece 64 = .ok (.lcmp, 1) := by decide +kernel
theorem dX10_piece_65 : decode cX10_piece 65 = .ok (.ifCond .le 15, 3) := by decide +kernel
theorem dX10_piece_68 : decode cX10_piece 68 = .ok (.lload 6, 2) := by decide +kernel
theorem dX10_piece_70 : decode cX10_piece 70 = .ok (.lload_n 3, 1) := by decide +kernel
theorem dX10_piece_71 : decode cX10_piece 71 = .ok (.lcmp, 1) := by decide +kernel
theorem dX10_piece_72 : decode cX10_piece 72 = .ok (.ifCond .ge 8, 3) := by decide +kernel
theorem dX10_piece_75 : decode cX10_piece 75 = .ok (.lload 6, 2) := by decide +kernel
theorem dX10_piece_77 : decode cX10_piece 77 = .ok (.goto 4, 3) := by decide +kernel
theorem dX10_piece_80 : decode cX10_piece 80 = .ok (.lload_n 3, 1) := by decide +kernel
theorem dX10_piece_81 : decode cX10_piece 81 = .ok (.lstore_n 3, 1) := by decide +kernel
theorem dX10_piece_82 : decode cX10_piece 82 = .ok (.lload 8, 2) := by decide +kernel
theorem dX10_piece_84 : decode cX10_piece 84 = .ok (.aload_n 0, 1) := by decide +kernel
theorem dX10_piece_85 : decode cX10_piece 85 = .ok (.getfield 85, 3) := by decide +kernel
theorem dX10_piece_88 : decode cX10_piece 88 = .ok (.iload_n 2, 1) := by decide +kernel
theorem dX10_piece_89 : decode cX10_piece 89 = .ok (.laload, 1) := by decide +kernel
theorem dX10_piece_90 : decode cX10_piece 90 = .ok (.lcmp, 1) := by decide +kernel
theorem dX10_piece_91 : decode cX10_piece 91 = .ok (.ifCond .le 15, 3) := by decide +kernel
theorem dX10_piece_94 : decode cX10_piece 94 = .ok (.lload 8, 2) := by decide +kernel
theorem dX10_piece_96 : decode cX10_piece 96 = .ok (.lload_n 3, 1) := by decide +kernel
theorem dX10_piece_97 : decode cX10_piece 97 = .ok (.lcmp, 1) := by decide +kernel
theorem dX10_piece_98 : decode cX10_piece 98 = .ok (.ifCond .ge 8, 3) := by decide +kernel
theorem dX10_piece_101 : decode cX10_piece 101 = .ok (.lload 8, 2) := by decide +kernel
theorem dX10_piece_103 : decode cX10_piece 103 = .ok (.goto 4, 3) := by decide +kernel
theorem dX10_piece_106 : decode cX10_piece 106 = .ok (.lload_n 3, 1) := by decide +kernel
theorem dX10_piece_107 : decode cX10_piece 107 = .ok (.lstore_n 3, 1) := by decide +kernel
theorem dX10_piece_108 : decode cX10_piece 108 = .ok (.iinc 5 1, 3) := by decide +kernel
theorem dX10_piece_111 : decode cX10_piece 111 = .ok (.goto (-104), 3) := by decide +kernel
theorem dX10_piece_114 : decode cX10_piece 114 = .ok (.lload_n 3, 1) := by decide +kernel
theorem dX10_piece_115 : decode cX10_piece 115 = .ok (.lreturn, 1) := by decide +kernel
theorem dX10_remember_0 : decode cX10_remember 0 = .ok (.aload_n 0, 1) := by decide +kernel
theorem dX10_remember_1 : decode cX10_remember 1 = .ok (.getfield 82, 3) := by decide +kernel
theorem dX10_remember_4 : decode cX10_remember 4 = .ok (.iconst 0, 1) := by decide +kernel
theorem dX10_remember_5 : decode cX10_remember 5 = .ok (.iaload, 1) := by decide +kernel
theorem dX10_remember_6 : decode cX10_remember 6 = .ok (.i2l, 1) := by decide +kernel
theorem dX10_remember_7 : decode cX10_remember 7 = .ok (.lstore_n 2, 1) := by decide +kernel
theorem dX10_remember_8 : decode cX10_remember 8 = .ok (.aload_n 0, 1) := by decide +kernel
theorem dX10_remember_9 : decode cX10_remember 9 = .ok (.iload_n 1, 1) := by decide +kernel
theorem dX10_remember_10 : decode cX10_remember 10 = .ok (.iconst 0, 1) := by decide +kernel
theorem dX10_remember_11 : decode cX10_remember 11 = .ok (.invokevirtual 176, 3) := by decide +kernel
theorem dX10_remember_14 : decode cX10_remember 14 = .ok (.lstore 4, 2) := by decide +kernel
theorem dX10_remember_16 : decode cX10_remember 16 = .ok (.aload_n 0, 1) := by decide +kernel
theorem dX10_remember_17 : decode cX10_remember 17 = .ok (.getfield 29, 3) := by decide +kernel
theorem dX10_remember_20 : decode cX10_remember 20 = .ok (.iload_n 1, 1) := by decide +kernel
theorem dX10_remember_21 : decode cX10_remember 21 = .ok (.iaload, 1) := by decide +kernel
theorem dX10_remember_22 : decode cX10_remember 22 = .ok (.iconst 2, 1) := by decide +kernel
theorem dX10_remember_23 : decode cX10_remember 23 = .ok (.if_icmp .ne 13, 3) := by decide +kernel
theorem dX10_remember_26 : decode cX10_remember 26 = .ok (.aload_n 0, 1) := by decide +kernel
theorem dX10_remember_27 : decode cX10_remember 27 = .ok (.getfield 82, 3) := by decide +kernel
theorem dX10_remember_30 : decode cX10_remember 30 = .ok (.iconst 1, 1) := by decide +kernel
theorem dX10_remember_31 : decode cX10_remember 31 = .ok (.iaload, 1) := by decide +kernel
theorem dX10_remember_32 : decode cX10_remember 32 = .ok (.i2l, 1) := by decide +kernel
theorem dX10_remember_33 : decode cX10_remember 33 = .ok (.goto 4, 3) := by decide +kernel
theorem dX10_remember_36 : decode cX10_remember 36 = .ok (.lconst 0, 1) := by decide +kernel
theorem dX10_remember_37 : decode cX10_remember 37 = .ok (.lstore 6, 2) := by decide +kernel
theorem dX10_remember_39 : decode cX10_remember 39 = .ok (.aload_n 0, 1) := by decide +kernel
theorem dX10_remember_40 : decode cX10_remember 40 = .ok (.getfield 29, 3) := by decide +kernel
theorem dX10_remember_43 : decode cX10_remember 43 = .ok (.iload_n 1, 1) := by decide +kernel
theorem dX10_remember_44 : decode cX10_remember 44 = .ok (.iaload, 1) := by decide +kernel
theorem dX10_remember_45 : decode cX10_remember 45 = .ok (.iconst 2, 1) := by decide +kernel
theorem dX10_remember_46 : decode cX10_remember 46 = .ok (.if_icmp .ne 12, 3) := by decide +kernel
theorem dX10_remember_49 : decode cX10_remember 49 = .ok (.aload_n 0, 1) := by decide +kernel
theorem dX10_remember_50 : decode cX10_remember 50 = .ok (.iload_n 1, 1) := by decide +kernel
theorem dX10_remember_51 : decode cX10_remember 51 = .ok (.iconst 1, 1) := by decide +kernel
theorem dX10_remember_52 : decode cX10_remember 52 = .ok (.invokevirtual 176, 3) := by decide +kernel
theorem dX10_remember_55 : decode cX10_remember 55 = .ok (.goto 4, 3) := by decide +kernel
theorem dX10_remember_58 : decode cX10_remember 58 = .ok (.lconst 0, 1) := by decide +kernel
theorem dX10_remember_59 : decode cX10_remember 59 = .ok (.lstore 8, 2) := by decide +kernel
theorem dX10_remember_61 : decode cX10_remember 61 = .ok (.bipush 64, 2) := by decide +kernel
theorem dX10_remember_63 : decode cX10_remember 63 = .ok (.iload_n 1, 1) := by decide +kernel
theorem dX10_remember_64 : decode cX10_remember 64 = .ok (.imul, 1) := by decide +kernel
theorem dX10_remember_65 : decode cX10_remember 65 = .ok (.istore 10, 2) := by decide +kernel
theorem dX10_remember_67 : decode cX10_remember 67 = .ok (.iconst 0, 1) := by decide +kernel
theorem dX10_remember_68 : decode cX10_remember 68 = .ok (.istore 11, 2) := by decide +kernel
theorem dX10_remember_70 : decode cX10_remember 70 = .ok (.iload 11, 2) := by decide +kernel
theorem dX10_remember_72 : decode cX10_remember 72 = .ok (.aload_n 0, 1) := by decide +kernel
theorem dX10_remember_73 : decode cX10_remember 73 = .ok (.getfield 42, 3) := by decide +kernel
theorem dX10_remember_76 : decode cX10_remember 76 = .ok (.iload_n 1, 1) := by decide +kernel
theorem dX10_remember_77 : decode cX10_remember 77 = .ok (.iaload, 1) := by decide +kernel
theorem dX10_remember_78 : decode cX10_remember 78 = .ok (.if_icmp .ge 86, 3) := by decide +kernel
theorem dX10_remember_81 : decode cX10_remember 81 = .ok (.aload_n 0, 1) := by decide +kernel
theorem dX10_remember_82 : decode cX10_remember 82 = .ok (.getfield 38, 3) := by decide +kernel
theorem dX10_remember_85 : decode cX10_remember 85 = .ok (.iload 10, 2) := by decide +kernel
theorem dX10_remember_87 : decode cX10_remember 87 = .ok (.iconst 4, 1) := by decide +kernel
theorem dX10_remember_88 : decode cX10_remember 88 = .ok (.iload 11, 2) := by decide +kernel
theorem dX10_remember_90 : decode cX10_remember 90 = .ok (.imul, 1) := by decide +kernel
theorem dX10_remember_91 : decode cX10_remember 91 = .ok (.iadd, 1) := by decide +kernel
theorem dX10_remember_92 : decode cX10_remember 92 = .ok (.laload, 1) := by decide +kernel
theorem dX10_remember_93 : decode cX10_remember 93 = .ok (.lload_n 2, 1) := by decide +kernel
theorem dX10_remember_94 : decode cX10_remember 94 = .ok (.lcmp, 1) := by decide +kernel
theorem dX10_remember_95 : decode cX10_remember 95 = .ok (.ifCond .ne 63, 3) := by decide +kernel
theorem dX10_remember_98 : decode cX10_remember 98 = .ok (.aload_n 0, 1) := by decide +kernel
theorem dX10_remember_99 : decode cX10_remember 99 = .ok (.getfield 38, 3) := by decide +kernel
theorem dX10_remember_102 : decode cX10_remember 102 = .ok (.iload 10, 2) := by decide +kernel
theorem dX10_remember_104 : decode cX10_remember 104 = .ok (.iconst 4, 1) := by decide +kernel
theorem dX10_remember_105 : decode cX10_remember 105 = .ok (.iload 11, 2) := by decide +kernel
theorem dX10_remember_107 : decode cX10_remember 107 = .ok (.imul, 1) := by decide +kernel
theorem dX10_remember_108 : decode cX10_remember 108 = .ok (.iadd, 1) := by decide +kernel
theorem dX10_remember_109 : decode cX10_remember 109 = .ok (.iconst 1, 1) := by decide +kernel
theorem dX10_remember_110 : decode cX10_remember 110 = .ok (.iadd, 1) := by decide +kernel
theorem dX10_remember_111 : decode cX10_remember 111 = .ok (.laload, 1) := by decide +kernel
theorem dX10_remember_112 : decode cX10_remember 112 = .ok (.lload 4, 2) := by decide +kernel
theorem dX10_remember_114 : decode cX10_remember 114 = .ok (.lcmp, 1) := by decide +kernel
theorem dX10_remember_115 : decode cX10_remember 115 = .ok (.ifCond .ne 43, 3) := by decide +kernel
theorem dX10_remember_118 : decode cX10_remember 118 = .ok (.aload_n 0, 1) := by decide +kernel
theorem dX10_remember_119 : decode cX10_remember 119 = .ok (.getfield 38, 3) := by decide +kernel
theorem dX10_remember_122 : decode cX10_remember 122 = .ok (.iload 10, 2) := by decide +kernel
theorem dX10_remember_124 : decode cX10_remember 124 = .ok (.iconst 4, 1) := by decide +kernel
theorem dX10_remember_125 : decode cX10_remember 125 = .ok (.iload 11, 2) := by decide +kernel
theorem dX10_remember_127 : decode cX10_remember 127 = .ok (.imul, 1) := by decide +kernel
theorem dX10_remember_128 : decode cX10_remember 128 = .ok (.iadd, 1) := by decide +kernel
theorem dX10_remember_129 : decode cX10_remember 129 = .ok (.iconst 2, 1) := by decide +kernel
theorem dX10_remember_130 : decode cX10_remember 130 = .ok (.iadd, 1) := by decide +kernel
theorem dX10_remember_131 : decode cX10_remember 131 = .ok (.laload, 1) := by decide +kernel
theorem dX10_remember_132 : decode cX10_remember 132 = .ok (.lload 6, 2) := by decide +kernel
theorem dX10_remember_134 : decode cX10_remember 134 = .ok (.lcmp, 1) := by decide +kernel
theorem dX10_remember_135 : decode cX10_remember 135 = .ok (.ifCond .ne 23, 3) := by decide +kernel
theorem dX10_remember_138 : decode cX10_remember 138 = .ok (.aload_n 0, 1) := by decide +kernel
theorem dX10_remember_139 : decode cX10_remember 139 = .ok (.getfield 38, 3) := by decide +kernel
theorem dX10_remember_142 : decode cX10_remember 142 = .ok (.iload 10, 2) := by decide +kernel
theorem dX10_remember_144 : decode cX10_remember 144 = .ok (.iconst 4, 1) := by decide +kernel
theorem dX10_remember_145 : decode cX10_remember 145 = .ok (.iload 11, 2) := by decide +kernel
theorem dX10_remember_147 : decode cX10_remember 147 = .ok (.imul, 1) := by decide +kernel
theorem dX10_remember_148 : decode cX10_remember 148 = .ok (.iadd, 1) := by decide +kernel
theorem dX10_remember_149 : decode cX10_remember 149 = .ok (.iconst 3, 1) := by decide +kernel
theorem dX10_remember_150 : decode cX10_remember 150 = .ok (.iadd, 1) := by decide +kernel
theorem dX10_remember_151 : decode cX10_remember 151 = .ok (.laload, 1) := by decide +kernel
theorem dX10_remember_152 : decode cX10_remember 152 = .ok (.lload 8, 2) := by decide +kernel
theorem dX10_remember_154 : decode cX10_remember 154 = .ok (.lcmp, 1) := by decide +kernel
theorem dX10_remember_155 : decode cX10_remember 155 = .ok (.ifCond .eq 9, 3) := by decide +kernel
theorem dX10_remember_158 : decode cX10_remember 158 = .ok (.iinc 11 1, 3) := by decide +kernel
theorem dX10_remember_161 : decode cX10_remember 161 = .ok (.goto (-91), 3) := by decide +kernel
theorem dX10_remember_164 : decode cX10_remember 164 = .ok (.aload_n 0, 1) := by decide +kernel
theorem dX10_remember_165 : decode cX10_remember 165 = .ok (.getfield 35, 3) := by decide +kernel
theorem dX10_remember_168 : decode cX10_remember 168 = .ok (.iload_n 1, 1) := by decide +kernel
theorem dX10_remember_169 : decode cX10_remember 169 = .ok (.dup2, 1) := by decide +kernel
theorem dX10_remember_170 : decode cX10_remember 170 = .ok (.iaload, 1) := by decide +kernel
theorem dX10_remember_171 : decode cX10_remember 171 = .ok (.iload 11, 2) := by decide +kernel
theorem dX10_remember_173 : decode cX10_remember 173 = .ok (.aload_n 0, 1) := by decide +kernel
theorem dX10_remember_174 : decode cX10_remember 174 = .ok (.getfield 42, 3) := by decide +kernel
theorem dX10_remember_177 : decode cX10_remember 177 = .ok (.iload_n 1, 1) := by decide +kernel
theorem dX10_remember_178 : decode cX10_remember 178 = .ok (.iaload, 1) := by decide +kernel
theorem dX10_remember_179 : decode cX10_remember 179 = .ok (.if_icmp .ge 7, 3) := by decide +kernel
theorem dX10_remember_182 : decode cX10_remember 182 = .ok (.iconst 1, 1) := by decide +kernel
theorem dX10_remember_183 : decode cX10_remember 183 = .ok (.goto 4, 3) := by decide +kernel
theorem dX10_remember_186 : decode cX10_remember 186 = .ok (.iconst 0, 1) := by decide +kernel
theorem dX10_remember_187 : decode cX10_remember 187 = .ok (.iadd, 1) := by decide +kernel
theorem dX10_remember_188 : decode cX10_remember 188 = .ok (.iastore, 1) := by decide +kernel
theorem dX10_remember_189 : decode cX10_remember 189 = .ok (.iload 11, 2) := by decide +kernel
theorem dX10_remember_191 : decode cX10_remember 191 = .ok (.aload_n 0, 1) := by decide +kernel
theorem dX10_remember_192 : decode cX10_remember 192 = .ok (.getfield 42, 3) := by decide +kernel
theorem dX10_remember_195 : decode cX10_remember 195 = .ok (.iload_n 1, 1) := by decide +kernel
theorem dX10_remember_196 : decode cX10_remember 196 = .ok (.iaload, 1) := by decide +kernel
theorem dX10_remember_197 : decode cX10_remember 197 = .ok (.if_icmp .ge 8, 3) := by decide +kernel
theorem dX10_remember_200 : decode cX10_remember 200 = .ok (.iload 11, 2) := by decide +kernel
theorem dX10_remember_202 : decode cX10_remember 202 = .ok (.goto 24, 3) := by decide +kernel
theorem dX10_remember_205 : decode cX10_remember 205 = .ok (.aload_n 0, 1) := by decide +kernel
theorem dX10_remember_206 : decode cX10_remember 206 = .ok (.getfield 42, 3) := by decide +kernel
theorem dX10_remember_209 : decode cX10_remember 209 = .ok (.iload_n 1, 1) := by decide +kernel
theorem dX10_remember_210 : decode cX10_remember 210 = .ok (.iaload, 1) := by decide +kernel
theorem dX10_remember_211 : decode cX10_remember 211 = .ok (.bipush 16, 2) := by decide +kernel
theorem dX10_remember_213 : decode cX10_remember 213 = .ok (.if_icmp .ne 7, 3) := by decide +kernel
theorem dX10_remember_216 : decode cX10_remember 216 = .ok (.iconst 0, 1) := by decide +kernel
theorem dX10_remember_217 : decode cX10_remember 217 = .ok (.goto 9, 3) := by decide +kernel
theorem dX10_remember_220 : decode cX10_remember 220 = .ok (.aload_n 0, 1) := by decide +kernel
theorem dX10_remember_221 : decode cX10_remember 221 = .ok (.getfield 42, 3) := by decide +kernel
theorem dX10_remember_224 : decode cX10_remember 224 = .ok (.iload_n 1, 1) := by decide +kernel
theorem dX10_remember_225 : decode cX10_remember 225 = .ok (.iaload, 1) := by decide +kernel
theorem dX10_remember_226 : decode cX10_remember 226 = .ok (.istore 12, 2) := by decide +kernel
theorem dX10_remember_228 : decode cX10_remember 228 = .ok (.aload_n 0, 1) := by decide +kernel
theorem dX10_remember_229 : decode cX10_remember 229 = .ok (.getfield 42, 3) := by decide +kernel
theorem dX10_remember_232 : decode cX10_remember 232 = .ok (.iload_n 1, 1) := by decide +kernel
theorem dX10_remember_233 : decode cX10_remember 233 = .ok (.dup2, 1) := by decide +kernel
theorem dX10_remember_234 : decode cX10_remember 234 = .ok (.iaload, 1) := by decide +kernel
theorem dX10_remember_235 : decode cX10_remember 235 = .ok (.iload 12, 2) := by decide +kernel
theorem dX10_remember_237 : decode cX10_remember 237 = .ok (.aload_n 0, 1) := by decide +kernel
theorem dX10_remember_238 : decode cX10_remember 238 = .ok (.getfield 42, 3) := by decide +kernel
theorem dX10_remember_241 : decode cX10_remember 241 = .ok (.iload_n 1, 1) := by decide +kernel
theorem dX10_remember_242 : decode cX10_remember 242 = .ok (.iaload, 1) := by decide +kernel
theorem dX10_remember_243 : decode cX10_remember 243 = .ok (.if_icmp .ne 7, 3) := by decide +kernel
theorem dX10_remember_246 : decode cX10_remember 246 = .ok (.iconst 1, 1) := by decide +kernel
theorem dX10_remember_247 : decode cX10_remember 247 = .ok (.goto 4, 3) := by decide +kernel
theorem dX10_remember_250 : decode cX10_remember 250 = .ok (.iconst 0, 1) := by decide +kernel
theorem dX10_remember_251 : decode cX10_remember 251 = .ok (.iadd, 1) := by decide +kernel
theorem dX10_remember_252 : decode cX10_remember 252 = .ok (.iastore, 1) := by decide +kernel
theorem dX10_remember_253 : decode cX10_remember 253 = .ok (.iload 10, 2) := by decide +kernel
theorem dX10_remember_255 : decode cX10_remember 255 = .ok (.iconst 4, 1) := by decide +kernel
theorem dX10_remember_256 : decode cX10_remember 256 = .ok (.iload 12, 2) := by decide +kernel
theorem dX10_remember_258 : decode cX10_remember 258 = .ok (.imul, 1) := by decide +kernel
theorem dX10_remember_259 : decode cX10_remember 259 = .ok (.iadd, 1) := by decide +kernel
theorem dX10_remember_260 : decode cX10_remember 260 = .ok (.istore 13, 2) := by decide +kernel
theorem dX10_remember_262 : decode cX10_remember 262 = .ok (.iload 13, 2) := by decide +kernel
theorem dX10_remember_264 : decode cX10_remember 264 = .ok (.iload 10, 2) := by decide +kernel
theorem dX10_remember_266 : decode cX10_remember 266 = .ok (.iconst 4, 1) := by decide +kernel
theorem dX10_remember_267 : decode cX10_remember 267 = .ok (.aload_n 0, 1) := by decide +kernel
theorem dX10_remember_268 : decode cX10_remember 268 = .ok (.getfield 42, 3) := by decide +kernel
theorem dX10_remember_271 : decode cX10_remember 271 = .ok (.iload_n 1, 1) := by decide +kernel
theorem dX10_remember_272 : decode cX10_remember 272 = .ok (.iaload, 1) := by decide +kernel
theorem dX10_remember_273 : decode cX10_remember 273 = .ok (.imul, 1) := by decide +kernel
theorem dX10_remember_274 : decode cX10_remember 274 = .ok (.iadd, 1) := by decide +kernel
theorem dX10_remember_275 : decode cX10_remember 275 = .ok (.iconst 4, 1) := by decide +kernel
theorem dX10_remember_276 : decode cX10_remember 276 = .ok (.isub, 1) := by decide +kernel
theorem dX10_remember_277 : decode cX10_remember 277 = .ok (.if_icmp .ge 25, 3) := by decide +kernel
theorem dX10_remember_280 : decode cX10_remember 280 = .ok (.aload_n 0, 1) := by decide +kernel
theorem dX10_remember_281 : decode cX10_remember 281 = .ok (.getfield 38, 3) := by decide +kernel
theorem dX10_remember_284 : decode cX10_remember 284 = .ok (.iload 13, 2) := by decide +kernel
theorem dX10_remember_286 : decode cX10_remember 286 = .ok (.aload_n 0, 1) := by decide +kernel
theorem dX10_remember_287 : decode cX10_remember 287 = .ok (.getfield 38, 3) := by decide +kernel
theorem dX10_remember_290 : decode cX10_remember 290 = .ok (.iload 13, 2) := by decide +kernel
theorem dX10_remember_292 : decode cX10_remember 292 = .ok (.iconst 4, 1) := by decide +kernel
theorem dX10_remember_293 : decode cX10_remember 293 = .ok (.iadd, 1) := by decide +kernel
theorem dX10_remember_294 : decode cX10_remember 294 = .ok (.laload, 1) := by decide +kernel
theorem dX10_remember_295 : decode cX10_remember 295 = .ok (.lastore, 1) := by decide +kernel
theorem dX10_remember_296 : decode cX10_remember 296 = .ok (.iinc 13 1, 3) := by decide +kernel
theorem dX10_remember_299 : decode cX10_remember 299 = .ok (.goto (-37), 3) := by decide +kernel
theorem dX10_remember_302 : decode cX10_remember 302 = .ok (.iload 10, 2) := by decide +kernel
theorem dX10_remember_304 : decode cX10_remember 304 = .ok (.iconst 4, 1) := by decide +kernel
theorem dX10_remember_305 : decode cX10_remember 305 = .ok (.aload_n 0, 1) := by decide +kernel
theorem dX10_remember_306 : decode cX10_remember 306 = .ok (.getfield 42, 3) := by decide +kernel
theorem dX10_remember_309 : decode cX10_remember 309 = .ok (.iload_n 1, 1) := by decide +kernel
theorem dX10_remember_310 : decode cX10_remember 310 = .ok (.iaload, 1) := by decide +kernel
theorem dX10_remember_311 : decode cX10_remember 311 = .ok (.imul, 1) := by decide +kernel
theorem dX10_remember_312 : decode cX10_remember 312 = .ok (.iadd, 1) := by decide +kernel
theorem dX10_remember_313 : decode cX10_remember 313 = .ok (.iconst 4, 1) := by decide +kernel
theorem dX10_remember_314 : decode cX10_remember 314 = .ok (.isub, 1) := by decide +kernel
theorem dX10_remember_315 : decode cX10_remember 315 = .ok (.istore 13, 2) := by decide +kernel
theorem dX10_remember_317 : decode cX10_remember 317 = .ok (.aload_n 0, 1) := by decide +kernel
theorem dX10_remember_318 : decode cX10_remember 318 = .ok (.getfield 38, 3) := by decide +kernel
theorem dX10_remember_321 : decode cX10_remember 321 = .ok (.iload 13, 2) := by decide +kernel
theorem dX10_remember_323 : decode cX10_remember 323 = .ok (.lload_n 2, 1) := by decide +kernel
theorem dX10_remember_324 : decode cX10_remember 324 = .ok (.lastore, 1) := by decide +kernel
theorem dX10_remember_325 : decode cX10_remember 325 = .ok (.aload_n 0, 1) := by decide +kernel
theorem dX10_remember_326 : decode cX10_remember 326 = .ok (.getfield 38, 3) := by decide +kernel
theorem dX10_remember_329 : decode cX10_remember 329 = .ok (.iload 13, 2) := by decide +kernel
theorem dX10_remember_331 : decode cX10_remember 331 = .ok (.iconst 1, 1) := by decide +kernel
theorem dX10_remember_332 : decode cX10_remember 332 = .ok (.iadd, 1) := by decide +kernel
theorem dX10_remember_333 : decode cX10_remember 333 = .ok (.lload 4, 2) := by decide +kernel
theorem dX10_remember_335 : decode cX10_remember 335 = .ok (.lastore, 1) := by decide +kernel
theorem dX10_remember_336 : decode cX10_remember 336 = .ok (.aload_n 0, 1) := by decide +kernel
theorem dX10_remember_337 : decode cX10_remember 337 = .ok (.getfield 38, 3) := by decide +kernel
theorem dX10_remember_340 : decode cX10_remember 340 = .ok (.iload 13, 2) := by decide +kernel
theorem dX10_remember_342 : decode cX10_remember 342 = .ok (.iconst 2, 1) := by decide +kernel
theorem dX10_remember_343 : decode cX10_remember 343 = .ok (.iadd, 1) := by decide +kernel
theorem dX10_remember_344 : decode cX10_remember 344 = .ok (.lload 6, 2) := by decide +kernel
theorem dX10_remember_346 : decode cX10_remember 346 = .ok (.lastore, 1) := by decide +kernel
theorem dX10_remember_347 : decode cX10_remember 347 = .ok (.aload_n 0, 1) := by decide +kernel
theorem dX10_remember_348 : decode cX10_remember 348 = .ok (.getfield 38, 3) := by decide +kernel
theorem dX10_remember_351 : decode cX10_remember 351 = .ok (.iload 13, 2) := by decide +kernel
theorem dX10_remember_353 : decode cX10_remember 353 = .ok (.iconst 3, 1) := by decide +kernel
theorem dX10_remember_354 : decode cX10_remember 354 = .ok (.iadd, 1) := by decide +kernel
theorem dX10_remember_355 : decode cX10_remember 355 = .ok (.lload 8, 2) := by decide +kernel
theorem dX10_remember_357 : decode cX10_remember 357 = .ok (.lastore, 1) := by decide +kernel
theorem dX10_remember_358 : decode cX10_remember 358 = .ok (.return_, 1) := by decide +kernel
theorem dX10_arg_0 : decode cX10_arg 0 = .ok (.iload_n 1, 1) := by decide +kernel
theorem dX10_arg_1 : decode cX10_arg 1 = .ok (.ifCond .lt 20, 3) := by decide +kernel
theorem dX10_arg_4 : decode cX10_arg 4 = .ok (.iload_n 1, 1) := by decide +kernel
theorem dX10_arg_5 : decode cX10_arg 5 = .ok (.iconst 1, 1) := by decide +kernel
theorem dX10_arg_6 : decode cX10_arg 6 = .ok (.if_icmp .gt 15, 3) := by decide +kernel
theorem dX10_arg_9 : decode cX10_arg 9 = .ok (.iload_n 2, 1) := by decide +kernel
theorem dX10_arg_10 : decode cX10_arg 10 = .ok (.ifCond .lt 11, 3) := by decide +kernel
theorem dX10_arg_13 : decode cX10_arg 13 = .ok (.iload_n 2, 1) := by decide +kernel
theorem dX10_arg_14 : decode cX10_arg 14 = .ok (.aload_n 0, 1) := by decide +kernel
theorem dX10_arg_15 : decode cX10_arg 15 = .ok (.getfield 125, 3) := by decide +kernel
theorem dX10_arg_18 : decode cX10_arg 18 = .ok (.if_icmp .lt 6, 3) := by decide +kernel
theorem dX10_arg_21 : decode cX10_arg 21 = .ok (.bipush (-2), 2) := by decide +kernel
theorem dX10_arg_23 : decode cX10_arg 23 = .ok (.ireturn, 1) := by decide +kernel
theorem dX10_arg_24 : decode cX10_arg 24 = .ok (.aload_n 0, 1) := by decide +kernel
theorem dX10_arg_25 : decode cX10_arg 25 = .ok (.getfield 72, 3) := by decide +kernel
theorem dX10_arg_28 : decode cX10_arg 28 = .ok (.iload_n 1, 1) := by decide +kernel
theorem dX10_arg_29 : decode cX10_arg 29 = .ok (.iload_n 2, 1) := by decide +kernel
theorem dX10_arg_30 : decode cX10_arg 30 = .ok (.iastore, 1) := by decide +kernel
theorem dX10_arg_31 : decode cX10_arg 31 = .ok (.iconst 1, 1) := by decide +kernel
theorem dX10_arg_32 : decode cX10_arg 32 = .ok (.ireturn, 1) := by decide +kernel
theorem dX10_note_0 : decode cX10_note 0 = .ok (.aload_n 0, 1) := by decide +kernel
theorem dX10_note_1 : decode cX10_note 1 = .ok (.getfield 180, 3) := by decide +kernel
theorem dX10_note_4 : decode cX10_note 4 = .ok (.sipush 1000, 3) := by decide +kernel
theorem dX10_note_7 : decode cX10_note 7 = .ok (.if_icmp .ge 13, 3) := by decide +kernel
theorem dX10_note_10 : decode cX10_note 10 = .ok (.aload_n 0, 1) := by decide +kernel
theorem dX10_note_11 : decode cX10_note 11 = .ok (.getfield 79, 3) := by decide +kernel
theorem dX10_note_14 : decode cX10_note 14 = .ok (.aload_n 0, 1) := by decide +kernel
theorem dX10_note_15 : decode cX10_note 15 = .ok (.getfield 180, 3) := by decide +kernel
theorem dX10_note_18 : decode cX10_note 18 = .ok (.iload_n 1, 1) := by decide +kernel
theorem dX10_note_19 : decode cX10_note 19 = .ok (.iastore, 1) := by decide +kernel
theorem dX10_note_20 : decode cX10_note 20 = .ok (.aload_n 0, 1) := by decide +kernel
theorem dX10_note_21 : decode cX10_note 21 = .ok (.dup, 1) := by decide +kernel
theorem dX10_note_22 : decode cX10_note 22 = .ok (.getfield 180, 3) := by decide +kernel
theorem dX10_note_25 : decode cX10_note 25 = .ok (.iconst 1, 1) := by decide +kernel
theorem dX10_note_26 : decode cX10_note 26 = .ok (.iadd, 1) := by decide +kernel
theorem dX10_note_27 : decode cX10_note 27 = .ok (.putfield 180, 3) := by decide +kernel
theorem dX10_note_30 : decode cX10_note 30 = .ok (.return_, 1) := by decide +kernel
theorem dX10_weight_0 : decode cX10_weight 0 = .ok (.aload_n 0, 1) := by decide +kernel
theorem dX10_weight_1 : decode cX10_weight 1 = .ok (.getfield 85, 3) := by decide +kernel
theorem dX10_weight_4 : decode cX10_weight 4 = .ok (.iconst 0, 1) := by decide +kernel
theorem dX10_weight_5 : decode cX10_weight 5 = .ok (.laload, 1) := by decide +kernel
theorem dX10_weight_6 : decode cX10_weight 6 = .ok (.aload_n 0, 1) := by decide +kernel
theorem dX10_weight_7 : decode cX10_weight 7 = .ok (.getfield 29, 3) := by decide +kernel
theorem dX10_weight_10 : decode cX10_weight 10 = .ok (.iload_n 1, 1) := by decide +kernel
theorem dX10_weight_11 : decode cX10_weight 11 = .ok (.iaload, 1) := by decide +kernel
theorem dX10_weight_12 : decode cX10_weight 12 = .ok (.iconst 2, 1) := by decide +kernel
theorem dX10_weight_13 : decode cX10_weight 13 = .ok (.if_icmp .ne 12, 3) := by decide +kernel
theorem dX10_weight_16 : decode cX10_weight 16 = .ok (.aload_n 0, 1) := by decide +kernel
theorem dX10_weight_17 : decode cX10_weight 17 = .ok (.getfield 85, 3) := by decide +kernel
theorem dX10_weight_20 : decode cX10_weight 20 = .ok (.iconst 1, 1) := by decide +kernel
theorem dX10_weight_21 : decode cX10_weight 21 = .ok (.laload, 1) := by decide +kernel
theorem dX10_weight_22 : decode cX10_weight 22 = .ok (.goto 4, 3) := by decide +kernel
theorem dX10_weight_25 : decode cX10_weight 25 = .ok (.lconst 0, 1) := by decide +kernel
theorem dX10_weight_26 : decode cX10_weight 26 = .ok (.ladd, 1) := by decide +kernel
theorem dX10_weight_27 : decode cX10_weight 27 = .ok (.lreturn, 1) := by decide +kernel
theorem dX10_isBarred_0 : decode cX10_isBarred 0 = .ok (.aload_n 0, 1) := by decide +kernel
theorem dX10_isBarred_1 : decode cX10_isBarred 1 = .ok (.iload_n 1, 1) := by decide +kernel
theorem dX10_isBarred_2 : decode cX10_isBarred 2 = .ok (.invokevirtual 155, 3) := by decide +kernel
theorem dX10_isBarred_5 : decode cX10_isBarred 5 = .ok (.istore_n 2, 1) := by decide +kernel
theorem dX10_isBarred_6 : decode cX10_isBarred 6 = .ok (.iconst 0, 1) := by decide +kernel
theorem dX10_isBarred_7 : decode cX10_isBarred 7 = .ok (.istore_n 3, 1) := by decide +kernel
theorem dX10_isBarred_8 : decode cX10_isBarred 8 = .ok (.iload_n 3, 1) := by decide +kernel
theorem dX10_isBarred_9 : decode cX10_isBarred 9 = .ok (.iload_n 2, 1) := by decide +kernel
theorem dX10_isBarred_10 : decode cX10_isBarred 10 = .ok (.if_icmp .ge 61, 3) := by decide +kernel
theorem dX10_isBarred_13 : decode cX10_isBarred 13 = .ok (.aload_n 0, 1) := by decide +kernel
theorem dX10_isBarred_14 : decode cX10_isBarred 14 = .ok (.iload_n 1, 1) := by decide +kernel
theorem dX10_isBarred_15 : decode cX10_isBarred 15 = .ok (.iload_n 3, 1) := by decide +kernel
theorem dX10_isBarred_16 : decode cX10_isBarred 16 = .ok (.invokevirtual 162, 3) := by decide +kernel
theorem dX10_isBarred_19 : decode cX10_isBarred 19 = .ok (.istore 4, 2) := by decide +kernel
theorem dX10_isBarred_21 : decode cX10_isBarred 21 = .ok (.aload_n 0, 1) := by decide +kernel
theorem dX10_isBarred_22 : decode cX10_isBarred 22 = .ok (.getfield 54, 3) := by decide +kernel
theorem dX10_isBarred_25 : decode cX10_isBarred 25 = .ok (.iload 4, 2) := by decide +kernel
theorem dX10_isBarred_27 : decode cX10_isBarred 27 = .ok (.baload, 1) := by decide +kernel
theorem dX10_isBarred_28 : decode cX10_isBarred 28 = .ok (.ifCond .eq 37, 3) := by decide +kernel
theorem dX10_isBarred_31 : decode cX10_isBarred 31 = .ok (.aload_n 0, 1) := by decide +kernel
theorem dX10_isBarred_32 : decode cX10_isBarred 32 = .ok (.iload 4, 2) := by decide +kernel
theorem dX10_isBarred_34 : decode cX10_isBarred 34 = .ok (.invokevirtual 168, 3) := by decide +kernel
theorem dX10_isBarred_37 : decode cX10_isBarred 37 = .ok (.ifCond .eq 28, 3) := by decide +kernel
theorem dX10_isBarred_40 : decode cX10_isBarred 40 = .ok (.aload_n 0, 1) := by decide +kernel
theorem dX10_isBarred_41 : decode cX10_isBarred 41 = .ok (.iload 4, 2) := by decide +kernel
theorem dX10_isBarred_43 : decode cX10_isBarred 43 = .ok (.invokevirtual 183, 3) := by decide +kernel
theorem dX10_isBarred_46 : decode cX10_isBarred 46 = .ok (.aload_n 0, 1) := by decide +kernel
theorem dX10_isBarred_47 : decode cX10_isBarred 47 = .ok (.iload_n 1, 1) := by decide +kernel
theorem dX10_isBarred_48 : decode cX10_isBarred 48 = .ok (.invokevirtual 187, 3) := by decide +kernel
theorem dX10_isBarred_51 : decode cX10_isBarred 51 = .ok (.aload_n 0, 1) := by decide +kernel
theorem dX10_isBarred_52 : decode cX10_isBarred 52 = .ok (.getfield 51, 3) := by decide +kernel
theorem dX10_isBarred_55 : decode cX10_isBarred 55 = .ok (.iload 4, 2) := by decide +kernel
theorem dX10_isBarred_57 : decode cX10_isBarred 57 = .ok (.iaload, 1) := by decide +kernel
theorem dX10_isBarred_58 : decode cX10_isBarred 58 = .ok (.i2l, 1) := by decide +kernel
theorem dX10_isBarred_59 : decode cX10_isBarred 59 = .ok (.lcmp, 1) := by decide +kernel
theorem dX10_isBarred_60 : decode cX10_isBarred 60 = .ok (.ifCond .ge 5, 3) := by decide +kernel
theorem dX10_isBarred_63 : decode cX10_isBarred 63 = .ok (.iconst 1, 1) := by decide +kernel
theorem dX10_isBarred_64 : decode cX10_isBarred 64 = .ok (.ireturn, 1) := by decide +kernel
theorem dX10_isBarred_65 : decode cX10_isBarred 65 = .ok (.iinc 3 1, 3) := by decide +kernel
theorem dX10_isBarred_68 : decode cX10_isBarred 68 = .ok (.goto (-60), 3) := by decide +kernel
theorem dX10_isBarred_71 : decode cX10_isBarred 71 = .ok (.iconst 0, 1) := by decide +kernel
theorem dX10_isBarred_72 : decode cX10_isBarred 72 = .ok (.ireturn, 1) := by decide +kernel
theorem dX10_begin_0 : decode cX10_begin 0 = .ok (.aload_n 0, 1) := by decide +kernel
theorem dX10_begin_1 : decode cX10_begin 1 = .ok (.getfield 191, 3) := by decide +kernel
theorem dX10_begin_4 : decode cX10_begin 4 = .ok (.bipush 12, 2) := by decide +kernel
theorem dX10_begin_6 : decode cX10_begin 6 = .ok (.if_icmp .ne 6, 3) := by decide +kernel
theorem dX10_begin_9 : decode cX10_begin 9 = .ok (.bipush (-6), 2) := by decide +kernel
theorem dX10_begin_11 : decode cX10_begin 11 = .ok (.ireturn, 1) := by decide +kernel
theorem dX10_begin_12 : decode cX10_begin 12 = .ok (.aload_n 0, 1) := by decide +kernel
theorem dX10_begin_13 : decode cX10_begin 13 = .ok (.dup, 1) := by decide +kernel
theorem dX10_begin_14 : decode cX10_begin 14 = .ok (.getfield 191, 3) := by decide +kernel
theorem dX10_begin_17 : decode cX10_begin 17 = .ok (.iconst 1, 1) := by decide +kernel
theorem dX10_begin_18 : decode cX10_begin 18 = .ok (.iadd, 1) := by decide +kernel
theorem dX10_begin_19 : decode cX10_begin 19 = .ok (.putfield 191, 3) := by decide +kernel
theorem dX10_begin_22 : decode cX10_begin 22 = .ok (.aload_n 0, 1) := by decide +kernel
theorem dX10_begin_23 : decode cX10_begin 23 = .ok (.iload_n 1, 1) := by decide +kernel
theorem dX10_begin_24 : decode cX10_begin 24 = .ok (.invokevirtual 194, 3) := by decide +kernel
theorem dX10_begin_27 : decode cX10_begin 27 = .ok (.ifCond .eq 6, 3) := by decide +kernel
theorem dX10_begin_30 : decode cX10_begin 30 = .ok (.bipush (-7), 2) := by decide +kernel
theorem dX10_begin_32 : decode cX10_begin 32 = .ok (.ireturn, 1) := by decide +kernel
theorem dX10_begin_33 : decode cX10_begin 33 = .ok (.aload_n 0, 1) := by decide +kernel
theorem dX10_begin_34 : decode cX10_begin 34 = .ok (.iload_n 1, 1) := by decide +kernel
theorem dX10_begin_35 : decode cX10_begin 35 = .ok (.invokevirtual 197, 3) := by decide +kernel
theorem dX10_begin_38 : decode cX10_begin 38 = .ok (.aload_n 0, 1) := by decide +kernel
theorem dX10_begin_39 : decode cX10_begin 39 = .ok (.iload_n 1, 1) := by decide +kernel
theorem dX10_begin_40 : decode cX10_begin 40 = .ok (.iconst (-1), 1) := by decide +kernel
theorem dX10_begin_41 : decode cX10_begin 41 = .ok (.invokevirtual 200, 3) := by decide +kernel
theorem dX10_begin_44 : decode cX10_begin 44 = .ok (.ireturn, 1) := by decide +kernel
theorem dX10_choose_0 : decode cX10_choose 0 = .ok (.aload_n 0, 1) := by decide +kernel
theorem dX10_choose_1 : decode cX10_choose 1 = .ok (.iload_n 1, 1) := by decide +kernel
theorem dX10_choose_2 : decode cX10_choose 2 = .ok (.iload_n 2, 1) := by decide +kernel
theorem dX10_choose_3 : decode cX10_choose 3 = .ok (.invokevirtual 203, 3) := by decide +kernel
theorem dX10_choose_6 : decode cX10_choose 6 = .ok (.ifCond .ne 6, 3) := by decide +kernel
theorem dX10_choose_9 : decode cX10_choose 9 = .ok (.bipush (-3), 2) := by decide +kernel
theorem dX10_choose_11 : decode cX10_choose 11 = .ok (.ireturn, 1) := by decide +kernel
theorem dX10_choose_12 : decode cX10_choose 12 = .ok (.aload_n 0, 1) := by decide +kernel
theorem dX10_choose_13 : decode cX10_choose 13 = .ok (.iload_n 1, 1) := by decide +kernel
theorem dX10_choose_14 : decode cX10_choose 14 = .ok (.iload_n 2, 1) := by decide +kernel
theorem dX10_choose_15 : decode cX10_choose 15 = .ok (.invokevirtual 206, 3) := by decide +kernel
theorem dX10_choose_18 : decode cX10_choose 18 = .ok (.istore_n 3, 1) := by decide +kernel
theorem dX10_choose_19 : decode cX10_choose 19 = .ok (.iload_n 3, 1) := by decide +kernel
theorem dX10_choose_20 : decode cX10_choose 20 = .ok (.ifCond .ge 8, 3) := by decide +kernel
theorem dX10_choose_23 : decode cX10_choose 23 = .ok (.bipush (-4), 2) := by decide +kernel
theorem dX10_choose_25 : decode cX10_choose 25 = .ok (.goto 4, 3) := by decide +kernel
theorem dX10_choose_28 : decode cX10_choose 28 = .ok (.iload_n 3, 1) := by decide +kernel
theorem dX10_choose_29 : decode cX10_choose 29 = .ok (.ireturn, 1) := by decide +kernel
theorem dX10_fail_0 : decode cX10_fail 0 = .ok (.aload_n 0, 1) := by decide +kernel
theorem dX10_fail_1 : decode cX10_fail 1 = .ok (.iload_n 1, 1) := by decide +kernel
theorem dX10_fail_2 : decode cX10_fail 2 = .ok (.putfield 209, 3) := by decide +kernel
theorem dX10_fail_5 : decode cX10_fail 5 = .ok (.bipush (-5), 2) := by decide +kernel
theorem dX10_fail_7 : decode cX10_fail 7 = .ok (.ireturn, 1) := by decide +kernel
theorem dX10_end_0 : decode cX10_end 0 = .ok (.aload_n 0, 1) := by decide +kernel
theorem dX10_end_1 : decode cX10_end 1 = .ok (.dup, 1) := by decide +kernel
theorem dX10_end_2 : decode cX10_end 2 = .ok (.getfield 212, 3) := by decide +kernel
theorem dX10_end_5 : decode cX10_end 5 = .ok (.lload_n 1, 1) := by decide +kernel
theorem dX10_end_6 : decode cX10_end 6 = .ok (.ladd, 1) := by decide +kernel
theorem dX10_end_7 : decode cX10_end 7 = .ok (.putfield 212, 3) := by decide +kernel
theorem dX10_end_10 : decode cX10_end 10 = .ok (.bipush (-2), 2) := by decide +kernel
theorem dX10_end_12 : decode cX10_end 12 = .ok (.ireturn, 1) := by decide +kernel
theorem dX10_turn_0 : decode cX10_turn 0 = .ok (.aload_n 0, 1) := by decide +kernel
theorem dX10_turn_1 : decode cX10_turn 1 = .ok (.getfield 82, 3) := by decide +kernel
theorem dX10_turn_4 : decode cX10_turn 4 = .ok (.iconst 0, 1) := by decide +kernel
theorem dX10_turn_5 : decode cX10_turn 5 = .ok (.iaload, 1) := by decide +kernel
theorem dX10_turn_6 : decode cX10_turn 6 = .ok (.istore_n 1, 1) := by decide +kernel
theorem dX10_turn_7 : decode cX10_turn 7 = .ok (.aload_n 0, 1) := by decide +kernel
theorem dX10_turn_8 : decode cX10_turn 8 = .ok (.getfield 85, 3) := by decide +kernel
theorem dX10_turn_11 : decode cX10_turn 11 = .ok (.iconst 0, 1) := by decide +kernel
theorem dX10_turn_12 : decode cX10_turn 12 = .ok (.laload, 1) := by decide +kernel
theorem dX10_turn_13 : decode cX10_turn 13 = .ok (.lstore_n 2, 1) := by decide +kernel
theorem dX10_turn_14 : decode cX10_turn 14 = .ok (.aload_n 0, 1) := by decide +kernel
theorem dX10_turn_15 : decode cX10_turn 15 = .ok (.getfield 82, 3) := by decide +kernel
theorem dX10_turn_18 : decode cX10_turn 18 = .ok (.iconst 0, 1) := by decide +kernel
theorem dX10_turn_19 : decode cX10_turn 19 = .ok (.aload_n 0, 1) := by decide +kernel
theorem dX10_turn_20 : decode cX10_turn 20 = .ok (.getfield 82, 3) := by decide +kernel
theorem dX10_turn_23 : decode cX10_turn 23 = .ok (.iconst 1, 1) := by decide +kernel
theorem dX10_turn_24 : decode cX10_turn 24 = .ok (.iaload, 1) := by decide +kernel
theorem dX10_turn_25 : decode cX10_turn 25 = .ok (.iastore, 1) := by decide +kernel
theorem dX10_turn_26 : decode cX10_turn 26 = .ok (.aload_n 0, 1) := by decide +kernel
theorem dX10_turn_27 : decode cX10_turn 27 = .ok (.getfield 85, 3) := by decide +kernel
theorem dX10_turn_30 : decode cX10_turn 30 = .ok (.iconst 0, 1) := by decide +kernel
theorem dX10_turn_31 : decode cX10_turn 31 = .ok (.aload_n 0, 1) := by decide +kernel
theorem dX10_turn_32 : decode cX10_turn 32 = .ok (.getfield 85, 3) := by decide +kernel
theorem dX10_turn_35 : decode cX10_turn 35 = .ok (.iconst 1, 1) := by decide +kernel
theorem dX10_turn_36 : decode cX10_turn 36 = .ok (.laload, 1) := by decide +kernel
theorem dX10_turn_37 : decode cX10_turn 37 = .ok (.lastore, 1) := by decide +kernel
theorem dX10_turn_38 : decode cX10_turn 38 = .ok (.aload_n 0, 1) := by decide +kernel
theorem dX10_turn_39 : decode cX10_turn 39 = .ok (.getfield 82, 3) := by decide +kernel
theorem dX10_turn_42 : decode cX10_turn 42 = .ok (.iconst 1, 1) := by decide +kernel
theorem dX10_turn_43 : decode cX10_turn 43 = .ok (.iload_n 1, 1) := by decide +kernel
theorem dX10_turn_44 : decode cX10_turn 44 = .ok (.iastore, 1) := by decide +kernel
theorem dX10_turn_45 : decode cX10_turn 45 = .ok (.aload_n 0, 1) := by decide +kernel
theorem dX10_turn_46 : decode cX10_turn 46 = .ok (.getfield 85, 3) := by decide +kernel
theorem dX10_turn_49 : decode cX10_turn 49 = .ok (.iconst 1, 1) := by decide +kernel
theorem dX10_turn_50 : decode cX10_turn 50 = .ok (.lload_n 2, 1) := by decide +kernel
theorem dX10_turn_51 : decode cX10_turn 51 = .ok (.lastore, 1) := by decide +kernel
theorem dX10_turn_52 : decode cX10_turn 52 = .ok (.return_, 1) := by decide +kernel
theorem dX10_rest_0 : decode cX10_rest 0 = .ok (.iload_n 0, 1) := by decide +kernel
theorem dX10_rest_1 : decode cX10_rest 1 = .ok (.iload_n 1, 1) := by decide +kernel
theorem dX10_rest_2 : decode cX10_rest 2 = .ok (.irem, 1) := by decide +kernel
theorem dX10_rest_3 : decode cX10_rest 3 = .ok (.istore_n 2, 1) := by decide +kernel
theorem dX10_rest_4 : decode cX10_rest 4 = .ok (.iload_n 2, 1) := by decide +kernel
theorem dX10_rest_5 : decode cX10_rest 5 = .ok (.ifCond .ge 9, 3) := by decide +kernel
theorem dX10_rest_8 : decode cX10_rest 8 = .ok (.iload_n 2, 1) := by decide +kernel
theorem dX10_rest_9 : decode cX10_rest 9 = .ok (.iload_n 1, 1) := by decide +kernel
theorem dX10_rest_10 : decode cX10_rest 10 = .ok (.iadd, 1) := by decide +kernel
theorem dX10_rest_11 : decode cX10_rest 11 = .ok (.goto 4, 3) := by decide +kernel
theorem dX10_rest_14 : decode cX10_rest 14 = .ok (.iload_n 2, 1) := by decide +kernel
theorem dX10_rest_15 : decode cX10_rest 15 = .ok (.ireturn, 1) := by decide +kernel
theorem dX10_callOn_0 : decode cX10_callOn 0 = .ok (.aload_n 0, 1) := by decide +kernel
theorem dX10_callOn_1 : decode cX10_callOn 1 = .ok (.getfield 51, 3) := by decide +kernel
theorem dX10_callOn_4 : decode cX10_callOn 4 = .ok (.iload_n 2, 1) := by decide +kernel
theorem dX10_callOn_5 : decode cX10_callOn 5 = .ok (.iaload, 1) := by decide +kernel
theorem dX10_callOn_6 : decode cX10_callOn 6 = .ok (.iconst 4, 1) := by decide +kernel
theorem dX10_callOn_7 : decode cX10_callOn 7 = .ok (.invokestatic 216, 3) := by decide +kernel
theorem dX10_callOn_10 : decode cX10_callOn 10 = .ok (.istore_n 3, 1) := by decide +kernel
theorem dX10_callOn_11 : decode cX10_callOn 11 = .ok (.aload_n 0, 1) := by decide +kernel
theorem dX10_callOn_12 : decode cX10_callOn 12 = .ok (.iload_n 3, 1) := by decide +kernel
theorem dX10_callOn_13 : decode cX10_callOn 13 = .ok (.invokevirtual 134, 3) := by decide +kernel
theorem dX10_callOn_16 : decode cX10_callOn 16 = .ok (.ifCond .eq 18, 3) := by decide +kernel
theorem dX10_callOn_19 : decode cX10_callOn 19 = .ok (.aload_n 0, 1) := by decide +kernel
theorem dX10_callOn_20 : decode cX10_callOn 20 = .ok (.getfield 29, 3) := by decide +kernel
theorem dX10_callOn_23 : decode cX10_callOn 23 = .ok (.iload_n 3, 1) := by decide +kernel
theorem dX10_callOn_24 : decode cX10_callOn 24 = .ok (.iaload, 1) := by decide +kernel
theorem dX10_callOn_25 : decode cX10_callOn 25 = .ok (.aload_n 0, 1) := by decide +kernel
theorem dX10_callOn_26 : decode cX10_callOn 26 = .ok (.getfield 29, 3) := by decide +kernel
theorem dX10_callOn_29 : decode cX10_callOn 29 = .ok (.iload_n 1, 1) := by decide +kernel
theorem dX10_callOn_30 : decode cX10_callOn 30 = .ok (.iaload, 1) := by decide +kernel
theorem dX10_callOn_31 : decode cX10_callOn 31 = .ok (.if_icmp .eq 10, 3) := by decide +kernel
theorem dX10_callOn_34 : decode cX10_callOn 34 = .ok (.aload_n 0, 1) := by decide +kernel
theorem dX10_callOn_35 : decode cX10_callOn 35 = .ok (.bipush (-2), 2) := by decide +kernel
theorem dX10_callOn_37 : decode cX10_callOn 37 = .ok (.invokevirtual 219, 3) := by decide +kernel
theorem dX10_callOn_40 : decode cX10_callOn 40 = .ok (.ireturn, 1) := by decide +kernel
theorem dX10_callOn_41 : decode cX10_callOn 41 = .ok (.aload_n 0, 1) := by decide +kernel
theorem dX10_callOn_42 : decode cX10_callOn 42 = .ok (.getfield 48, 3) := by decide +kernel
theorem dX10_callOn_45 : decode cX10_callOn 45 = .ok (.iload_n 2, 1) := by decide +kernel
theorem dX10_callOn_46 : decode cX10_callOn 46 = .ok (.iaload, 1) := by decide +kernel
theorem dX10_callOn_47 : decode cX10_callOn 47 = .ok (.bipush 7, 2) := by decide +kernel
theorem dX10_callOn_49 : decode cX10_callOn 49 = .ok (.if_icmp .ne 17, 3) := by decide +kernel
theorem dX10_callOn_52 : decode cX10_callOn 52 = .ok (.aload_n 0, 1) := by decide +kernel
theorem dX10_callOn_53 : decode cX10_callOn 53 = .ok (.getfield 29, 3) := by decide +kernel
theorem dX10_callOn_56 : decode cX10_callOn 56 = .ok (.iload_n 1, 1) := by decide +kernel
theorem dX10_callOn_57 : decode cX10_callOn 57 = .ok (.iaload, 1) := by decide +kernel
theorem dX10_callOn_58 : decode cX10_callOn 58 = .ok (.iconst 2, 1) := by decide +kernel
theorem dX10_callOn_59 : decode cX10_callOn 59 = .ok (.if_icmp .ne 7, 3) := by decide +kernel
theorem dX10_callOn_62 : decode cX10_callOn 62 = .ok (.aload_n 0, 1) := by decide +kernel
theorem dX10_callOn_63 : decode cX10_callOn 63 = .ok (.invokevirtual 222, 3) := by decide +kernel
theorem dX10_callOn_66 : decode cX10_callOn 66 = .ok (.aload_n 0, 1) := by decide +kernel
theorem dX10_callOn_67 : decode cX10_callOn 67 = .ok (.dup, 1) := by decide +kernel
theorem dX10_callOn_68 : decode cX10_callOn 68 = .ok (.getfield 212, 3) := by decide +kernel
theorem dX10_callOn_71 : decode cX10_callOn 71 = .ok (.lconst 1, 1) := by decide +kernel
theorem dX10_callOn_72 : decode cX10_callOn 72 = .ok (.ladd, 1) := by decide +kernel
theorem dX10_callOn_73 : decode cX10_callOn 73 = .ok (.putfield 212, 3) := by decide +kernel
theorem dX10_callOn_76 : decode cX10_callOn 76 = .ok (.aload_n 0, 1) := by decide +kernel
theorem dX10_callOn_77 : decode cX10_callOn 77 = .ok (.iload_n 3, 1) := by decide +kernel
theorem dX10_callOn_78 : decode cX10_callOn 78 = .ok (.invokevirtual 225, 3) := by decide +kernel
theorem dX10_callOn_81 : decode cX10_callOn 81 = .ok (.ireturn, 1) := by decide +kernel
theorem dX10_grow_0 : decode cX10_grow 0 = .ok (.aload_n 0, 1) := by decide +kernel
theorem dX10_grow_1 : decode cX10_grow 1 = .ok (.getfield 125, 3) := by decide +kernel
theorem dX10_grow_4 : decode cX10_grow 4 = .ok (.sipush 300, 3) := by decide +kernel
theorem dX10_grow_7 : decode cX10_grow 7 = .ok (.if_icmp .ne 9, 3) := by decide +kernel
theorem dX10_grow_10 : decode cX10_grow 10 = .ok (.aload_n 0, 1) := by decide +kernel
theorem dX10_grow_11 : decode cX10_grow 11 = .ok (.iconst (-1), 1) := by decide +kernel
theorem dX10_grow_12 : decode cX10_grow 12 = .ok (.invokevirtual 219, 3) := by decide +kernel
theorem dX10_grow_15 : decode cX10_grow 15 = .ok (.ireturn, 1) := by decide +kernel
theorem dX10_grow_16 : decode cX10_grow 16 = .ok (.aload_n 0, 1) := by decide +kernel
theorem dX10_grow_17 : decode cX10_grow 17 = .ok (.getfield 23, 3) := by decide +kernel
theorem dX10_grow_20 : decode cX10_grow 20 = .ok (.aload_n 0, 1) := by decide +kernel
theorem dX10_grow_21 : decode cX10_grow 21 = .ok (.getfield 125, 3) := by decide +kernel
theorem dX10_grow_24 : decode cX10_grow 24 = .ok (.aload_n 0, 1) := by decide +kernel
theorem dX10_grow_25 : decode cX10_grow 25 = .ok (.getfield 82, 3) := by decide +kernel
theorem dX10_grow_28 : decode cX10_grow 28 = .ok (.iconst 0, 1) := by decide +kernel
theorem dX10_grow_29 : decode cX10_grow 29 = .ok (.iaload, 1) := by decide +kernel
theorem dX10_grow_30 : decode cX10_grow 30 = .ok (.iastore, 1) := by decide +kernel
theorem dX10_grow_31 : decode cX10_grow 31 = .ok (.aload_n 0, 1) := by decide +kernel
theorem dX10_grow_32 : decode cX10_grow 32 = .ok (.getfield 26, 3) := by decide +kernel
theorem dX10_grow_35 : decode cX10_grow 35 = .ok (.aload_n 0, 1) := by decide +kernel
theorem dX10_grow_36 : decode cX10_grow 36 = .ok (.getfield 125, 3) := by decide +kernel
theorem dX10_grow_39 : decode cX10_grow 39 = .ok (.aload_n 0, 1) := by decide +kernel
theorem dX10_grow_40 : decode cX10_grow 40 = .ok (.getfield 85, 3) := by decide +kernel
theorem dX10_grow_43 : decode cX10_grow 43 = .ok (.iconst 0, 1) := by decide +kernel
theorem dX10_grow_44 : decode cX10_grow 44 = .ok (.laload, 1) := by decide +kernel
theorem dX10_grow_45 : decode cX10_grow 45 = .ok (.iload_n 1, 1) := by decide +kernel
theorem dX10_grow_46 : decode cX10_grow 46 = .ok (.i2l, 1) := by decide +kernel
theorem dX10_grow_47 : decode cX10_grow 47 = .ok (.ladd, 1) := by decide +kernel
theorem dX10_grow_48 : decode cX10_grow 48 = .ok (.l2i, 1) := by decide +kernel
theorem dX10_grow_49 : decode cX10_grow 49 = .ok (.iastore, 1) := by decide +kernel
theorem dX10_grow_50 : decode cX10_grow 50 = .ok (.aload_n 0, 1) := by decide +kernel
theorem dX10_grow_51 : decode cX10_grow 51 = .ok (.dup, 1) := by decide +kernel
theorem dX10_grow_52 : decode cX10_grow 52 = .ok (.getfield 125, 3) := by decide +kernel
theorem dX10_grow_55 : decode cX10_grow 55 = .ok (.iconst 1, 1) := by decide +kernel
theorem dX10_grow_56 : decode cX10_grow 56 = .ok (.iadd, 1) := by decide +kernel
theorem dX10_grow_57 : decode cX10_grow 57 = .ok (.putfield 125, 3) := by decide +kernel
theorem dX10_grow_60 : decode cX10_grow 60 = .ok (.aload_n 0, 1) := by decide +kernel
theorem dX10_grow_61 : decode cX10_grow 61 = .ok (.aload_n 0, 1) := by decide +kernel
theorem dX10_grow_62 : decode cX10_grow 62 = .ok (.getfield 125, 3) := by decide +kernel
theorem dX10_grow_65 : decode cX10_grow 65 = .ok (.iconst 1, 1) := by decide +kernel
theorem dX10_grow_66 : decode cX10_grow 66 = .ok (.isub, 1) := by decide +kernel
theorem dX10_grow_67 : decode cX10_grow 67 = .ok (.i2l, 1) := by decide +kernel
theorem dX10_grow_68 : decode cX10_grow 68 = .ok (.invokevirtual 228, 3) := by decide +kernel
theorem dX10_grow_71 : decode cX10_grow 71 = .ok (.ireturn, 1) := by decide +kernel
theorem dX10_run_0 : decode cX10_run 0 = .ok (.aload_n 0, 1) := by decide +kernel
theorem dX10_run_1 : decode cX10_run 1 = .ok (.getfield 51, 3) := by decide +kernel
theorem dX10_run_4 : decode cX10_run 4 = .ok (.iload_n 2, 1) := by decide +kernel
theorem dX10_run_5 : decode cX10_run 5 = .ok (.iaload, 1) := by decide +kernel
theorem dX10_run_6 : decode cX10_run 6 = .ok (.istore_n 3, 1) := by decide +kernel
theorem dX10_run_7 : decode cX10_run 7 = .ok (.aload_n 0, 1) := by decide +kernel
theorem dX10_run_8 : decode cX10_run 8 = .ok (.iload_n 2, 1) := by decide +kernel
theorem dX10_run_9 : decode cX10_run 9 = .ok (.invokevirtual 183, 3) := by decide +kernel
theorem dX10_run_12 : decode cX10_run 12 = .ok (.aload_n 0, 1) := by decide +kernel
theorem dX10_run_13 : decode cX10_run 13 = .ok (.getfield 48, 3) := by decide +kernel
theorem dX10_run_16 : decode cX10_run 16 = .ok (.iload_n 2, 1) := by decide +kernel
theorem dX10_run_17 : decode cX10_run 17 = .ok (.iaload, 1) := by decide +kernel
theorem dX10_run_18 : decode cX10_run 18 = .ok (.tableswitch 136 0 5 #[38, 45, 58, 92, 98, 130], 38) := by decide +kernel
theorem dX10_run_56 : decode cX10_run 56 = .ok (.aload_n 0, 1) := by decide +kernel
theorem dX10_run_57 : decode cX10_run 57 = .ok (.iload_n 3, 1) := by decide +kernel
theorem dX10_run_58 : decode cX10_run 58 = .ok (.i2l, 1) := by decide +kernel
theorem dX10_run_59 : decode cX10_run 59 = .ok (.invokevirtual 228, 3) := by decide +kernel
theorem dX10_run_62 : decode cX10_run 62 = .ok (.ireturn, 1) := by decide +kernel
theorem dX10_run_63 : decode cX10_run 63 = .ok (.aload_n 0, 1) := by decide +kernel
theorem dX10_run_64 : decode cX10_run 64 = .ok (.aload_n 0, 1) := by decide +kernel
theorem dX10_run_65 : decode cX10_run 65 = .ok (.iload_n 1, 1) := by decide +kernel
theorem dX10_run_66 : decode cX10_run 66 = .ok (.invokevirtual 187, 3) := by decide +kernel
theorem dX10_run_69 : decode cX10_run 69 = .ok (.iload_n 3, 1) := by decide +kernel
theorem dX10_run_70 : decode cX10_run 70 = .ok (.i2l, 1) := by decide +kernel
theorem dX10_run_71 : decode cX10_run 71 = .ok (.ladd, 1) := by decide +kernel
theorem dX10_run_72 : decode cX10_run 72 = .ok (.invokevirtual 228, 3) := by decide +kernel
theorem dX10_run_75 : decode cX10_run 75 = .ok (.ireturn, 1) := by decide +kernel
theorem dX10_run_76 : decode cX10_run 76 = .ok (.aload_n 0, 1) := by decide +kernel
theorem dX10_run_77 : decode cX10_run 77 = .ok (.iload_n 1, 1) := by decide +kernel
theorem dX10_run_78 : decode cX10_run 78 = .ok (.iload_n 2, 1) := by decide +kernel
theorem dX10_run_79 : decode cX10_run 79 = .ok (.invokevirtual 203, 3) := by decide +kernel
theorem dX10_run_82 : decode cX10_run 82 = .ok (.ifCond .ne 10, 3) := by decide +kernel
theorem dX10_run_85 : decode cX10_run 85 = .ok (.aload_n 0, 1) := by decide +kernel
theorem dX10_run_86 : decode cX10_run 86 = .ok (.iload_n 3, 1) := by decide +kernel
theorem dX10_run_87 : decode cX10_run 87 = .ok (.i2l, 1) := by decide +kernel
theorem dX10_run_88 : decode cX10_run 88 = .ok (.invokevirtual 228, 3) := by decide +kernel
theorem dX10_run_91 : decode cX10_run 91 = .ok (.ireturn, 1) := by decide +kernel
theorem dX10_run_92 : decode cX10_run 92 = .ok (.aload_n 0, 1) := by decide +kernel
theorem dX10_run_93 : decode cX10_run 93 = .ok (.dup, 1) := by decide +kernel
theorem dX10_run_94 : decode cX10_run 94 = .ok (.getfield 212, 3) := by decide +kernel
theorem dX10_run_97 : decode cX10_run 97 = .ok (.iload_n 3, 1) := by decide +kernel
theorem dX10_run_98 : decode cX10_run 98 = .ok (.i2l, 1) := by decide +kernel
theorem dX10_run_99 : decode cX10_run 99 = .ok (.ladd, 1) := by decide +kernel
theorem dX10_run_100 : decode cX10_run 100 = .ok (.putfield 212, 3) := by decide +kernel
theorem dX10_run_103 : decode cX10_run 103 = .ok (.aload_n 0, 1) := by decide +kernel
theorem dX10_run_104 : decode cX10_run 104 = .ok (.iload_n 1, 1) := by decide +kernel
theorem dX10_run_105 : decode cX10_run 105 = .ok (.iload_n 2, 1) := by decide +kernel
theorem dX10_run_106 : decode cX10_run 106 = .ok (.invokevirtual 200, 3) := by decide +kernel
theorem dX10_run_109 : decode cX10_run 109 = .ok (.ireturn, 1) := by decide +kernel
theorem dX10_run_110 : decode cX10_run 110 = .ok (.aload_n 0, 1) := by decide +kernel
theorem dX10_run_111 : decode cX10_run 111 = .ok (.iload_n 3, 1) := by decide +kernel
theorem dX10_run_112 : decode cX10_run 112 = .ok (.invokevirtual 219, 3) := by decide +kernel
theorem dX10_run_115 : decode cX10_run 115 = .ok (.ireturn, 1) := by decide +kernel
theorem dX10_run_116 : decode cX10_run 116 = .ok (.iload_n 3, 1) := by decide +kernel
theorem dX10_run_117 : decode cX10_run 117 = .ok (.bipush 8, 2) := by decide +kernel
theorem dX10_run_119 : decode cX10_run 119 = .ok (.invokestatic 216, 3) := by decide +kernel
theorem dX10_run_122 : decode cX10_run 122 = .ok (.istore 4, 2) := by decide +kernel
theorem dX10_run_124 : decode cX10_run 124 = .ok (.aload_n 0, 1) := by decide +kernel
theorem dX10_run_125 : decode cX10_run 125 = .ok (.getfield 69, 3) := by decide +kernel
theorem dX10_run_128 : decode cX10_run 128 = .ok (.iload 4, 2) := by decide +kernel
theorem dX10_run_130 : decode cX10_run 130 = .ok (.dup2, 1) := by decide +kernel
theorem dX10_run_131 : decode cX10_run 131 = .ok (.iaload, 1) := by decide +kernel
theorem dX10_run_132 : decode cX10_run 132 = .ok (.iconst 1, 1) := by decide +kernel
theorem dX10_run_133 : decode cX10_run 133 = .ok (.iadd, 1) := by decide +kernel
theorem dX10_run_134 : decode cX10_run 134 = .ok (.iastore, 1) := by decide +kernel
theorem dX10_run_135 : decode cX10_run 135 = .ok (.aload_n 0, 1) := by decide +kernel
theorem dX10_run_136 : decode cX10_run 136 = .ok (.aload_n 0, 1) := by decide +kernel
theorem dX10_run_137 : decode cX10_run 137 = .ok (.getfield 69, 3) := by decide +kernel
theorem dX10_run_140 : decode cX10_run 140 = .ok (.iload 4, 2) := by decide +kernel
theorem dX10_run_142 : decode cX10_run 142 = .ok (.iaload, 1) := by decide +kernel
theorem dX10_run_143 : decode cX10_run 143 = .ok (.i2l, 1) := by decide +kernel
theorem dX10_run_144 : decode cX10_run 144 = .ok (.invokevirtual 228, 3) := by decide +kernel
theorem dX10_run_147 : decode cX10_run 147 = .ok (.ireturn, 1) := by decide +kernel
theorem dX10_run_148 : decode cX10_run 148 = .ok (.aload_n 0, 1) := by decide +kernel
theorem dX10_run_149 : decode cX10_run 149 = .ok (.iload_n 3, 1) := by decide +kernel
theorem dX10_run_150 : decode cX10_run 150 = .ok (.invokevirtual 232, 3) := by decide +kernel
theorem dX10_run_153 : decode cX10_run 153 = .ok (.ireturn, 1) := by decide +kernel
theorem dX10_run_154 : decode cX10_run 154 = .ok (.aload_n 0, 1) := by decide +kernel
theorem dX10_run_155 : decode cX10_run 155 = .ok (.iload_n 1, 1) := by decide +kernel
theorem dX10_run_156 : decode cX10_run 156 = .ok (.iload_n 2, 1) := by decide +kernel
theorem dX10_run_157 : decode cX10_run 157 = .ok (.invokevirtual 235, 3) := by decide +kernel
theorem dX10_run_160 : decode cX10_run 160 = .ok (.ireturn, 1) := by decide +kernel
theorem dX10_call_0 : decode cX10_call 0 = .ok (.aload_n 0, 1) := by decide +kernel
theorem dX10_call_1 : decode cX10_call 1 = .ok (.iload_n 1, 1) := by decide +kernel
theorem dX10_call_2 : decode cX10_call 2 = .ok (.invokevirtual 134, 3) := by decide +kernel
theorem dX10_call_5 : decode cX10_call 5 = .ok (.ifCond .ne 6, 3) := by decide +kernel
theorem dX10_call_8 : decode cX10_call 8 = .ok (.bipush (-2), 2) := by decide +kernel
theorem dX10_call_10 : decode cX10_call 10 = .ok (.ireturn, 1) := by decide +kernel
theorem dX10_call_11 : decode cX10_call 11 = .ok (.aload_n 0, 1) := by decide +kernel
theorem dX10_call_12 : decode cX10_call 12 = .ok (.iload_n 1, 1) := by decide +kernel
theorem dX10_call_13 : decode cX10_call 13 = .ok (.invokevirtual 238, 3) := by decide +kernel
theorem dX10_call_16 : decode cX10_call 16 = .ok (.ifCond .ne 6, 3) := by decide +kernel
theorem dX10_call_19 : decode cX10_call 19 = .ok (.bipush (-3), 2) := by decide +kernel
theorem dX10_call_21 : decode cX10_call 21 = .ok (.ireturn, 1) := by decide +kernel
theorem dX10_call_22 : decode cX10_call 22 = .ok (.aload_n 0, 1) := by decide +kernel
theorem dX10_call_23 : decode cX10_call 23 = .ok (.iconst 0, 1) := by decide +kernel
theorem dX10_call_24 : decode cX10_call 24 = .ok (.putfield 180, 3) := by decide +kernel
theorem dX10_call_27 : decode cX10_call 27 = .ok (.aload_n 0, 1) := by decide +kernel
theorem dX10_call_28 : decode cX10_call 28 = .ok (.iconst 0, 1) := by decide +kernel
theorem dX10_call_29 : decode cX10_call 29 = .ok (.putfield 191, 3) := by decide +kernel
theorem dX10_call_32 : decode cX10_call 32 = .ok (.aload_n 0, 1) := by decide +kernel
theorem dX10_call_33 : decode cX10_call 33 = .ok (.lconst 0, 1) := by decide +kernel
theorem dX10_call_34 : decode cX10_call 34 = .ok (.putfield 212, 3) := by decide +kernel
theorem dX10_call_37 : decode cX10_call 37 = .ok (.aload_n 0, 1) := by decide +kernel
theorem dX10_call_38 : decode cX10_call 38 = .ok (.iconst 0, 1) := by decide +kernel
theorem dX10_call_39 : decode cX10_call 39 = .ok (.putfield 209, 3) := by decide +kernel
theorem dX10_call_42 : decode cX10_call 42 = .ok (.aload_n 0, 1) := by decide +kernel
theorem dX10_call_43 : decode cX10_call 43 = .ok (.iload_n 1, 1) := by decide +kernel
theorem dX10_call_44 : decode cX10_call 44 = .ok (.invokevirtual 225, 3) := by decide +kernel
theorem dX10_call_47 : decode cX10_call 47 = .ok (.istore_n 2, 1) := by decide +kernel
theorem dX10_call_48 : decode cX10_call 48 = .ok (.iload_n 2, 1) := by decide +kernel
theorem dX10_call_49 : decode cX10_call 49 = .ok (.ifCond .lt 18, 3) := by decide +kernel
theorem dX10_call_52 : decode cX10_call 52 = .ok (.aload_n 0, 1) := by decide +kernel
theorem dX10_call_53 : decode cX10_call 53 = .ok (.aload_n 0, 1) := by decide +kernel
theorem dX10_call_54 : decode cX10_call 54 = .ok (.getfield 45, 3) := by decide +kernel
theorem dX10_call_57 : decode cX10_call 57 = .ok (.iload_n 2, 1) := by decide +kernel
theorem dX10_call_58 : decode cX10_call 58 = .ok (.iaload, 1) := by decide +kernel
theorem dX10_call_59 : decode cX10_call 59 = .ok (.iload_n 2, 1) := by decide +kernel
theorem dX10_call_60 : decode cX10_call 60 = .ok (.invokevirtual 241, 3) := by decide +kernel
theorem dX10_call_63 : decode cX10_call 63 = .ok (.istore_n 2, 1) := by decide +kernel
theorem dX10_call_64 : decode cX10_call 64 = .ok (.goto (-16), 3) := by decide +kernel
theorem dX10_call_67 : decode cX10_call 67 = .ok (.aload_n 0, 1) := by decide +kernel
theorem dX10_call_68 : decode cX10_call 68 = .ok (.bipush (-2), 2) := by decide +kernel
theorem dX10_call_70 : decode cX10_call 70 = .ok (.iload_n 2, 1) := by decide +kernel
theorem dX10_call_71 : decode cX10_call 71 = .ok (.isub, 1) := by decide +kernel
theorem dX10_call_72 : decode cX10_call 72 = .ok (.putfield 75, 3) := by decide +kernel
theorem dX10_call_75 : decode cX10_call 75 = .ok (.aload_n 0, 1) := by decide +kernel
theorem dX10_call_76 : decode cX10_call 76 = .ok (.getfield 75, 3) := by decide +kernel
theorem dX10_call_79 : decode cX10_call 79 = .ok (.ireturn, 1) := by decide +kernel
theorem dX10_value_0 : decode cX10_value 0 = .ok (.aload_n 0, 1) := by decide +kernel
theorem dX10_value_1 : decode cX10_value 1 = .ok (.getfield 75, 3) := by decide +kernel
theorem dX10_value_4 : decode cX10_value 4 = .ok (.ifCond .ne 10, 3) := by decide +kernel
theorem dX10_value_7 : decode cX10_value 7 = .ok (.aload_n 0, 1) := by decide +kernel
theorem dX10_value_8 : decode cX10_value 8 = .ok (.getfield 212, 3) := by decide +kernel
theorem dX10_value_11 : decode cX10_value 11 = .ok (.goto 4, 3) := by decide +kernel
theorem dX10_value_14 : decode cX10_value 14 = .ok (.lconst 0, 1) := by decide +kernel
theorem dX10_value_15 : decode cX10_value 15 = .ok (.lreturn, 1) := by decide +kernel
theorem dX10_failure_0 : decode cX10_failure 0 = .ok (.aload_n 0, 1) := by decide +kernel
theorem dX10_failure_1 : decode cX10_failure 1 = .ok (.getfield 75, 3) := by decide +kernel
theorem dX10_failure_4 : decode cX10_failure 4 = .ok (.iconst 3, 1) := by decide +kernel
theorem dX10_failure_5 : decode cX10_failure 5 = .ok (.if_icmp .ne 10, 3) := by decide +kernel
theorem dX10_failure_8 : decode cX10_failure 8 = .ok (.aload_n 0, 1) := by decide +kernel
theorem dX10_failure_9 : decode cX10_failure 9 = .ok (.getfield 209, 3) := by decide +kernel
theorem dX10_failure_12 : decode cX10_failure 12 = .ok (.goto 4, 3) := by decide +kernel
theorem dX10_failure_15 : decode cX10_failure 15 = .ok (.iconst 0, 1) := by decide +kernel
theorem dX10_failure_16 : decode cX10_failure 16 = .ok (.ireturn, 1) := by decide +kernel
theorem dX10_step_0 : decode cX10_step 0 = .ok (.iload_n 1, 1) := by decide +kernel
theorem dX10_step_1 : decode cX10_step 1 = .ok (.ifCond .lt 18, 3) := by decide +kernel
theorem dX10_step_4 : decode cX10_step 4 = .ok (.iload_n 1, 1) := by decide +kernel
theorem dX10_step_5 : decode cX10_step 5 = .ok (.aload_n 0, 1) := by decide +kernel
theorem dX10_step_6 : decode cX10_step 6 = .ok (.getfield 180, 3) := by decide +kernel
theorem dX10_step_9 : decode cX10_step 9 = .ok (.if_icmp .ge 10, 3) := by decide +kernel
theorem dX10_step_12 : decode cX10_step 12 = .ok (.iload_n 1, 1) := by decide +kernel
theorem dX10_step_13 : decode cX10_step 13 = .ok (.sipush 1000, 3) := by decide +kernel
theorem dX10_step_16 : decode cX10_step 16 = .ok (.if_icmp .lt 7, 3) := by decide +kernel
theorem dX10_step_19 : decode cX10_step 19 = .ok (.iconst (-1), 1) := by decide +kernel
theorem dX10_step_20 : decode cX10_step 20 = .ok (.goto 9, 3) := by decide +kernel
theorem dX10_step_23 : decode cX10_step 23 = .ok (.aload_n 0, 1) := by decide +kernel
theorem dX10_step_24 : decode cX10_step 24 = .ok (.getfield 79, 3) := by decide +kernel
theorem dX10_step_27 : decode cX10_step 27 = .ok (.iload_n 1, 1) := by decide +kernel
theorem dX10_step_28 : decode cX10_step 28 = .ok (.iaload, 1) := by decide +kernel
theorem dX10_step_29 : decode cX10_step 29 = .ok (.ireturn, 1) := by decide +kernel
theorem dX10_counter_0 : decode cX10_counter 0 = .ok (.iload_n 1, 1) := by decide +kernel
theorem dX10_counter_1 : decode cX10_counter 1 = .ok (.ifCond .lt 9, 3) := by decide +kernel
theorem dX10_counter_4 : decode cX10_counter 4 = .ok (.iload_n 1, 1) := by decide +kernel
theorem dX10_counter_5 : decode cX10_counter 5 = .ok (.bipush 7, 2) := by decide +kernel
theorem dX10_counter_7 : decode cX10_counter 7 = .ok (.if_icmp .le 7, 3) := by decide +kernel
theorem dX10_counter_10 : decode cX10_counter 10 = .ok (.iconst (-1), 1) := by decide +kernel
theorem dX10_counter_11 : decode cX10_counter 11 = .ok (.goto 9, 3) := by decide +kernel
theorem dX10_counter_14 : decode cX10_counter 14 = .ok (.aload_n 0, 1) := by decide +kernel
theorem dX10_counter_15 : decode cX10_counter 15 = .ok (.getfield 69, 3) := by decide +kernel
theorem dX10_counter_18 : decode cX10_counter 18 = .ok (.iload_n 1, 1) := by decide +kernel
theorem dX10_counter_19 : decode cX10_counter 19 = .ok (.iaload, 1) := by decide +kernel
theorem dX10_counter_20 : decode cX10_counter 20 = .ok (.ireturn, 1) := by decide +kernel
theorem dX10_applicable_0 : decode cX10_applicable 0 = .ok (.aload_n 0, 1) := by decide +kernel
theorem dX10_applicable_1 : decode cX10_applicable 1 = .ok (.iload_n 1, 1) := by decide +kernel
theorem dX10_applicable_2 : decode cX10_applicable 2 = .ok (.invokevirtual 134, 3) := by decide +kernel
theorem dX10_applicable_5 : decode cX10_applicable 5 = .ok (.ifCond .eq 11, 3) := by decide +kernel
theorem dX10_applicable_8 : decode cX10_applicable 8 = .ok (.aload_n 0, 1) := by decide +kernel
theorem dX10_applicable_9 : decode cX10_applicable 9 = .ok (.iload_n 1, 1) := by decide +kernel
theorem dX10_applicable_10 : decode cX10_applicable 10 = .ok (.invokevirtual 238, 3) := by decide +kernel
theorem dX10_applicable_13 : decode cX10_applicable 13 = .ok (.ifCond .ne 5, 3) := by decide +kernel
theorem dX10_applicable_16 : decode cX10_applicable 16 = .ok (.iconst (-1), 1) := by decide +kernel
theorem dX10_applicable_17 : decode cX10_applicable 17 = .ok (.ireturn, 1) := by decide +kernel
theorem dX10_applicable_18 : decode cX10_applicable 18 = .ok (.iconst 0, 1) := by decide +kernel
theorem dX10_applicable_19 : decode cX10_applicable 19 = .ok (.istore_n 3, 1) := by decide +kernel
theorem dX10_applicable_20 : decode cX10_applicable 20 = .ok (.iconst (-1), 1) := by decide +kernel
theorem dX10_applicable_21 : decode cX10_applicable 21 = .ok (.istore 4, 2) := by decide +kernel
theorem dX10_applicable_23 : decode cX10_applicable 23 = .ok (.iconst 0, 1) := by decide +kernel
theorem dX10_applicable_24 : decode cX10_applicable 24 = .ok (.istore 5, 2) := by decide +kernel
theorem dX10_applicable_26 : decode cX10_applicable 26 = .ok (.iload 5, 2) := by decide +kernel
theorem dX10_applicable_28 : decode cX10_applicable 28 = .ok (.aload_n 0, 1) := by decide +kernel
theorem dX10_applicable_29 : decode cX10_applicable 29 = .ok (.getfield 131, 3) := by decide +kernel
theorem dX10_applicable_32 : decode cX10_applicable 32 = .ok (.if_icmp .ge 37, 3) := by decide +kernel
theorem dX10_applicable_35 : decode cX10_applicable 35 = .ok (.aload_n 0, 1) := by decide +kernel
theorem dX10_applicable_36 : decode cX10_applicable 36 = .ok (.iload 5, 2) := by decide +kernel
theorem dX10_applicable_38 : decode cX10_applicable 38 = .ok (.iload_n 1, 1) := by decide +kernel
theorem dX10_applicable_39 : decode cX10_applicable 39 = .ok (.iconst (-1), 1) := by decide +kernel
theorem dX10_applicable_40 : decode cX10_applicable 40 = .ok (.invokevirtual 171, 3) := by decide +kernel
theorem dX10_applicable_43 : decode cX10_applicable 43 = .ok (.ifCond .eq 20, 3) := by decide +kernel
theorem dX10_applicable_46 : decode cX10_applicable 46 = .ok (.iload_n 3, 1) := by decide +kernel
theorem dX10_applicable_47 : decode cX10_applicable 47 = .ok (.iload_n 2, 1) := by decide +kernel
theorem dX10_applicable_48 : decode cX10_applicable 48 = .ok (.if_icmp .ne 8, 3) := by decide +kernel
theorem dX10_applicable_51 : decode cX10_applicable 51 = .ok (.iload 5, 2) := by decide +kernel
theorem dX10_applicable_53 : decode cX10_applicable 53 = .ok (.goto 5, 3) := by decide +kernel
theorem dX10_applicable_56 : decode cX10_applicable 56 = .ok (.iload 4, 2) := by decide +kernel
theorem dX10_applicable_58 : decode cX10_applicable 58 = .ok (.istore 4, 2) := by decide +kernel
theorem dX10_applicable_60 : decode cX10_applicable 60 = .ok (.iinc 3 1, 3) := by decide +kernel
theorem dX10_applicable_63 : decode cX10_applicable 63 = .ok (.iinc 5 1, 3) := by decide +kernel
theorem dX10_applicable_66 : decode cX10_applicable 66 = .ok (.goto (-40), 3) := by decide +kernel
theorem dX10_applicable_69 : decode cX10_applicable 69 = .ok (.iload 4, 2) := by decide +kernel
theorem dX10_applicable_71 : decode cX10_applicable 71 = .ok (.ireturn, 1) := by decide +kernel
theorem dX10_most_0 : decode cX10_most 0 = .ok (.aload_n 0, 1) := by decide +kernel
theorem dX10_most_1 : decode cX10_most 1 = .ok (.iload_n 1, 1) := by decide +kernel
theorem dX10_most_2 : decode cX10_most 2 = .ok (.invokevirtual 134, 3) := by decide +kernel
theorem dX10_most_5 : decode cX10_most 5 = .ok (.ifCond .eq 20, 3) := by decide +kernel
theorem dX10_most_8 : decode cX10_most 8 = .ok (.aload_n 0, 1) := by decide +kernel
theorem dX10_most_9 : decode cX10_most 9 = .ok (.iload_n 1, 1) := by decide +kernel
theorem dX10_most_10 : decode cX10_most 10 = .ok (.invokevirtual 238, 3) := by decide +kernel
theorem dX10_most_13 : decode cX10_most 13 = .ok (.ifCond .eq 12, 3) := by decide +kernel
theorem dX10_most_16 : decode cX10_most 16 = .ok (.aload_n 0, 1) := by decide +kernel
theorem dX10_most_17 : decode cX10_most 17 = .ok (.iload_n 1, 1) := by decide +kernel
theorem dX10_most_18 : decode cX10_most 18 = .ok (.iconst (-1), 1) := by decide +kernel
theorem dX10_most_19 : decode cX10_most 19 = .ok (.invokevirtual 206, 3) := by decide +kernel
theorem dX10_most_22 : decode cX10_most 22 = .ok (.goto 4, 3) := by decide +kernel
theorem dX10_most_25 : decode cX10_most 25 = .ok (.iconst (-1), 1) := by decide +kernel
theorem dX10_most_26 : decode cX10_most 26 = .ok (.ireturn, 1) := by decide +kernel
theorem dX10_moreThan_0 : decode cX10_moreThan 0 = .ok (.iconst (-1), 1) := by decide +kernel
theorem dX10_moreThan_1 : decode cX10_moreThan 1 = .ok (.istore_n 3, 1) := by decide +kernel
theorem dX10_moreThan_2 : decode cX10_moreThan 2 = .ok (.aload_n 0, 1) := by decide +kernel
theorem dX10_moreThan_3 : decode cX10_moreThan 3 = .ok (.getfield 131, 3) := by decide +kernel
theorem dX10_moreThan_6 : decode cX10_moreThan 6 = .ok (.iconst 1, 1) := by decide +kernel
theorem dX10_moreThan_7 : decode cX10_moreThan 7 = .ok (.isub, 1) := by decide +kernel
theorem dX10_moreThan_8 : decode cX10_moreThan 8 = .ok (.istore 4, 2) := by decide +kernel
theorem dX10_moreThan_10 : decode cX10_moreThan 10 = .ok (.iload 4, 2) := by decide +kernel
theorem dX10_moreThan_12 : decode cX10_moreThan 12 = .ok (.ifCond .lt 37, 3) := by decide +kernel
theorem dX10_moreThan_15 : decode cX10_moreThan 15 = .ok (.aload_n 0, 1) := by decide +kernel
theorem dX10_moreThan_16 : decode cX10_moreThan 16 = .ok (.iload 4, 2) := by decide +kernel
theorem dX10_moreThan_18 : decode cX10_moreThan 18 = .ok (.iload_n 1, 1) := by decide +kernel
theorem dX10_moreThan_19 : decode cX10_moreThan 19 = .ok (.iconst (-1), 1) := by decide +kernel
theorem dX10_moreThan_20 : decode cX10_moreThan 20 = .ok (.invokevirtual 171, 3) := by decide +kernel
theorem dX10_moreThan_23 : decode cX10_moreThan 23 = .ok (.ifCond .eq 18, 3) := by decide +kernel
theorem dX10_moreThan_26 : decode cX10_moreThan 26 = .ok (.aload_n 0, 1) := by decide +kernel
theorem dX10_moreThan_27 : decode cX10_moreThan 27 = .ok (.iload 4, 2) := by decide +kernel
theorem dX10_moreThan_29 : decode cX10_moreThan 29 = .ok (.iload_n 2, 1) := by decide +kernel
theorem dX10_moreThan_30 : decode cX10_moreThan 30 = .ok (.invokevirtual 159, 3) := by decide +kernel
theorem dX10_moreThan_33 : decode cX10_moreThan 33 = .ok (.ifCond .eq 8, 3) := by decide +kernel
theorem dX10_moreThan_36 : decode cX10_moreThan 36 = .ok (.iload 4, 2) := by decide +kernel
theorem dX10_moreThan_38 : decode cX10_moreThan 38 = .ok (.goto 4, 3) := by decide +kernel
theorem dX10_moreThan_41 : decode cX10_moreThan 41 = .ok (.iload_n 3, 1) := by decide +kernel
theorem dX10_moreThan_42 : decode cX10_moreThan 42 = .ok (.istore_n 3, 1) := by decide +kernel
theorem dX10_moreThan_43 : decode cX10_moreThan 43 = .ok (.iinc 4 (-1), 3) := by decide +kernel
theorem dX10_moreThan_46 : decode cX10_moreThan 46 = .ok (.goto (-36), 3) := by decide +kernel
theorem dX10_moreThan_49 : decode cX10_moreThan 49 = .ok (.iload_n 3, 1) := by decide +kernel
theorem dX10_moreThan_50 : decode cX10_moreThan 50 = .ok (.ireturn, 1) := by decide +kernel
theorem dX10_explain_0 : decode cX10_explain 0 = .ok (.aload_n 0, 1) := by decide +kernel
theorem dX10_explain_1 : decode cX10_explain 1 = .ok (.iload_n 1, 1) := by decide +kernel
theorem dX10_explain_2 : decode cX10_explain 2 = .ok (.invokevirtual 139, 3) := by decide +kernel
theorem dX10_explain_5 : decode cX10_explain 5 = .ok (.ifCond .ne 6, 3) := by decide +kernel
theorem dX10_explain_8 : decode cX10_explain 8 = .ok (.bipush (-2), 2) := by decide +kernel
theorem dX10_explain_10 : decode cX10_explain 10 = .ok (.ireturn, 1) := by decide +kernel
theorem dX10_explain_11 : decode cX10_explain 11 = .ok (.aload_n 0, 1) := by decide +kernel
theorem dX10_explain_12 : decode cX10_explain 12 = .ok (.getfield 45, 3) := by decide +kernel
theorem dX10_explain_15 : decode cX10_explain 15 = .ok (.iload_n 1, 1) := by decide +kernel
theorem dX10_explain_16 : decode cX10_explain 16 = .ok (.iaload, 1) := by decide +kernel
theorem dX10_explain_17 : decode cX10_explain 17 = .ok (.istore_n 2, 1) := by decide +kernel
theorem dX10_explain_18 : decode cX10_explain 18 = .ok (.aload_n 0, 1) := by decide +kernel
theorem dX10_explain_19 : decode cX10_explain 19 = .ok (.iload_n 2, 1) := by decide +kernel
theorem dX10_explain_20 : decode cX10_explain 20 = .ok (.invokevirtual 238, 3) := by decide +kernel
theorem dX10_explain_23 : decode cX10_explain 23 = .ok (.ifCond .ne 6, 3) := by decide +kernel
theorem dX10_explain_26 : decode cX10_explain 26 = .ok (.bipush (-3), 2) := by decide +kernel
theorem dX10_explain_28 : decode cX10_explain 28 = .ok (.ireturn, 1) := by decide +kernel
theorem dX10_explain_29 : decode cX10_explain 29 = .ok (.aload_n 0, 1) := by decide +kernel
theorem dX10_explain_30 : decode cX10_explain 30 = .ok (.iconst (-1), 1) := by decide +kernel
theorem dX10_explain_31 : decode cX10_explain 31 = .ok (.putfield 88, 3) := by decide +kernel
theorem dX10_explain_34 : decode cX10_explain 34 = .ok (.aload_n 0, 1) := by decide +kernel
theorem dX10_explain_35 : decode cX10_explain 35 = .ok (.iload_n 1, 1) := by decide +kernel
theorem dX10_explain_36 : decode cX10_explain 36 = .ok (.iload_n 2, 1) := by decide +kernel
theorem dX10_explain_37 : decode cX10_explain 37 = .ok (.iconst (-1), 1) := by decide +kernel
theorem dX10_explain_38 : decode cX10_explain 38 = .ok (.invokevirtual 171, 3) := by decide +kernel
theorem dX10_explain_41 : decode cX10_explain 41 = .ok (.ifCond .eq 15, 3) := by decide +kernel
theorem dX10_explain_44 : decode cX10_explain 44 = .ok (.aload_n 0, 1) := by decide +kernel
theorem dX10_explain_45 : decode cX10_explain 45 = .ok (.iload_n 2, 1) := by decide +kernel
theorem dX10_explain_46 : decode cX10_explain 46 = .ok (.iconst (-1), 1) := by decide +kernel
theorem dX10_explain_47 : decode cX10_explain 47 = .ok (.invokevirtual 206, 3) := by decide +kernel
theorem dX10_explain_50 : decode cX10_explain 50 = .ok (.iload_n 1, 1) := by decide +kernel
theorem dX10_explain_51 : decode cX10_explain 51 = .ok (.if_icmp .ne 5, 3) := by decide +kernel
theorem dX10_explain_54 : decode cX10_explain 54 = .ok (.iconst 0, 1) := by decide +kernel
theorem dX10_explain_55 : decode cX10_explain 55 = .ok (.ireturn, 1) := by decide +kernel
theorem dX10_explain_56 : decode cX10_explain 56 = .ok (.aload_n 0, 1) := by decide +kernel
theorem dX10_explain_57 : decode cX10_explain 57 = .ok (.getfield 57, 3) := by decide +kernel
theorem dX10_explain_60 : decode cX10_explain 60 = .ok (.iload_n 1, 1) := by decide +kernel
theorem dX10_explain_61 : decode cX10_explain 61 = .ok (.iaload, 1) := by decide +kernel
theorem dX10_explain_62 : decode cX10_explain 62 = .ok (.iconst 1, 1) := by decide +kernel
theorem dX10_explain_63 : decode cX10_explain 63 = .ok (.if_icmp .ne 12, 3) := by decide +kernel
theorem dX10_explain_66 : decode cX10_explain 66 = .ok (.aload_n 0, 1) := by decide +kernel
theorem dX10_explain_67 : decode cX10_explain 67 = .ok (.getfield 54, 3) := by decide +kernel
theorem dX10_explain_70 : decode cX10_explain 70 = .ok (.iload_n 1, 1) := by decide +kernel
theorem dX10_explain_71 : decode cX10_explain 71 = .ok (.baload, 1) := by decide +kernel
theorem dX10_explain_72 : decode cX10_explain 72 = .ok (.ifCond .eq 19, 3) := by decide +kernel
theorem dX10_explain_75 : decode cX10_explain 75 = .ok (.aload_n 0, 1) := by decide +kernel
theorem dX10_explain_76 : decode cX10_explain 76 = .ok (.getfield 57, 3) := by decide +kernel
theorem dX10_explain_79 : decode cX10_explain 79 = .ok (.iload_n 1, 1) := by decide +kernel
theorem dX10_explain_80 : decode cX10_explain 80 = .ok (.iaload, 1) := by decide +kernel
theorem dX10_explain_81 : decode cX10_explain 81 = .ok (.iconst 1, 1) := by decide +kernel
theorem dX10_explain_82 : decode cX10_explain 82 = .ok (.if_icmp .eq 7, 3) := by decide +kernel
theorem dX10_explain_85 : decode cX10_explain 85 = .ok (.iconst 1, 1) := by decide +kernel
theorem dX10_explain_86 : decode cX10_explain 86 = .ok (.goto 4, 3) := by decide +kernel
theorem dX10_explain_89 : decode cX10_explain 89 = .ok (.iconst 2, 1) := by decide +kernel
theorem dX10_explain_90 : decode cX10_explain 90 = .ok (.ireturn, 1) := by decide +kernel
theorem dX10_explain_91 : decode cX10_explain 91 = .ok (.aload_n 0, 1) := by decide +kernel
theorem dX10_explain_92 : decode cX10_explain 92 = .ok (.iload_n 1, 1) := by decide +kernel
theorem dX10_explain_93 : decode cX10_explain 93 = .ok (.invokevirtual 168, 3) := by decide +kernel
theorem dX10_explain_96 : decode cX10_explain 96 = .ok (.ifCond .ne 23, 3) := by decide +kernel
theorem dX10_explain_99 : decode cX10_explain 99 = .ok (.aload_n 0, 1) := by decide +kernel
theorem dX10_explain_100 : decode cX10_explain 100 = .ok (.aload_n 0, 1) := by decide +kernel
theorem dX10_explain_101 : decode cX10_explain 101 = .ok (.iload_n 1, 1) := by decide +kernel
theorem dX10_explain_102 : decode cX10_explain 102 = .ok (.iconst 0, 1) := by decide +kernel
theorem dX10_explain_103 : decode cX10_explain 103 = .ok (.invokevirtual 165, 3) := by decide +kernel
theorem dX10_explain_106 : decode cX10_explain 106 = .ok (.ifCond .eq 7, 3) := by decide +kernel
theorem dX10_explain_109 : decode cX10_explain 109 = .ok (.iconst 1, 1) := by decide +kernel
theorem dX10_explain_110 : decode cX10_explain 110 = .ok (.goto 4, 3) := by decide +kernel
theorem dX10_explain_113 : decode cX10_explain 113 = .ok (.iconst 0, 1) := by decide +kernel
theorem dX10_explain_114 : decode cX10_explain 114 = .ok (.putfield 88, 3) := by decide +kernel
theorem dX10_explain_117 : decode cX10_explain 117 = .ok (.iconst 3, 1) := by decide +kernel
theorem dX10_explain_118 : decode cX10_explain 118 = .ok (.ireturn, 1) := by decide +kernel
theorem dX10_explain_119 : decode cX10_explain 119 = .ok (.aload_n 0, 1) := by decide +kernel
theorem dX10_explain_120 : decode cX10_explain 120 = .ok (.aload_n 0, 1) := by decide +kernel
theorem dX10_explain_121 : decode cX10_explain 121 = .ok (.iload_n 2, 1) := by decide +kernel
theorem dX10_explain_122 : decode cX10_explain 122 = .ok (.iload_n 1, 1) := by decide +kernel
theorem dX10_explain_123 : decode cX10_explain 123 = .ok (.invokevirtual 244, 3) := by decide +kernel
theorem dX10_explain_126 : decode cX10_explain 126 = .ok (.putfield 88, 3) := by decide +kernel
theorem dX10_explain_129 : decode cX10_explain 129 = .ok (.aload_n 0, 1) := by decide +kernel
theorem dX10_explain_130 : decode cX10_explain 130 = .ok (.getfield 88, 3) := by decide +kernel
theorem dX10_explain_133 : decode cX10_explain 133 = .ok (.ifCond .lt 5, 3) := by decide +kernel
theorem dX10_explain_136 : decode cX10_explain 136 = .ok (.iconst 4, 1) := by decide +kernel
theorem dX10_explain_137 : decode cX10_explain 137 = .ok (.ireturn, 1) := by decide +kernel
theorem dX10_explain_138 : decode cX10_explain 138 = .ok (.aload_n 0, 1) := by decide +kernel
theorem dX10_explain_139 : decode cX10_explain 139 = .ok (.getfield 131, 3) := by decide +kernel
theorem dX10_explain_142 : decode cX10_explain 142 = .ok (.iconst 1, 1) := by decide +kernel
theorem dX10_explain_143 : decode cX10_explain 143 = .ok (.isub, 1) := by decide +kernel
theorem dX10_explain_144 : decode cX10_explain 144 = .ok (.istore_n 3, 1) := by decide +kernel
theorem dX10_explain_145 : decode cX10_explain 145 = .ok (.iload_n 3, 1) := by decide +kernel
theorem dX10_explain_146 : decode cX10_explain 146 = .ok (.ifCond .lt 45, 3) := by decide +kernel
theorem dX10_explain_149 : decode cX10_explain 149 = .ok (.aload_n 0, 1) := by decide +kernel
theorem dX10_explain_150 : decode cX10_explain 150 = .ok (.iload_n 3, 1) := by decide +kernel
theorem dX10_explain_151 : decode cX10_explain 151 = .ok (.iload_n 1, 1) := by decide +kernel
theorem dX10_explain_152 : decode cX10_explain 152 = .ok (.if_icmp .eq 26, 3) := by decide +kernel
theorem dX10_explain_155 : decode cX10_explain 155 = .ok (.aload_n 0, 1) := by decide +kernel
theorem dX10_explain_156 : decode cX10_explain 156 = .ok (.iload_n 3, 1) := by decide +kernel
theorem dX10_explain_157 : decode cX10_explain 157 = .ok (.iload_n 2, 1) := by decide +kernel
theorem dX10_explain_158 : decode cX10_explain 158 = .ok (.iconst (-1), 1) := by decide +kernel
theorem dX10_explain_159 : decode cX10_explain 159 = .ok (.invokevirtual 171, 3) := by decide +kernel
theorem dX10_explain_162 : decode cX10_explain 162 = .ok (.ifCond .eq 16, 3) := by decide +kernel
theorem dX10_explain_165 : decode cX10_explain 165 = .ok (.aload_n 0, 1) := by decide +kernel
theorem dX10_explain_166 : decode cX10_explain 166 = .ok (.iload_n 1, 1) := by decide +kernel
theorem dX10_explain_167 : decode cX10_explain 167 = .ok (.iload_n 3, 1) := by decide +kernel
theorem dX10_explain_168 : decode cX10_explain 168 = .ok (.invokevirtual 159, 3) := by decide +kernel
theorem dX10_explain_171 : decode cX10_explain 171 = .ok (.ifCond .ne 7, 3) := by decide +kernel
theorem dX10_explain_174 : decode cX10_explain 174 = .ok (.iload_n 3, 1) := by decide +kernel
theorem dX10_explain_175 : decode cX10_explain 175 = .ok (.goto 7, 3) := by decide +kernel
theorem dX10_explain_178 : decode cX10_explain 178 = .ok (.aload_n 0, 1) := by decide +kernel
theorem dX10_explain_179 : decode cX10_explain 179 = .ok (.getfield 88, 3) := by decide +kernel
theorem dX10_explain_182 : decode cX10_explain 182 = .ok (.putfield 88, 3) := by decide +kernel
theorem dX10_explain_185 : decode cX10_explain 185 = .ok (.iinc 3 (-1), 3) := by decide +kernel
theorem dX10_explain_188 : decode cX10_explain 188 = .ok (.goto (-43), 3) := by decide +kernel
theorem dX10_explain_191 : decode cX10_explain 191 = .ok (.iconst 5, 1) := by decide +kernel
theorem dX10_explain_192 : decode cX10_explain 192 = .ok (.ireturn, 1) := by decide +kernel
theorem dX10_where_0 : decode cX10_where 0 = .ok (.aload_n 0, 1) := by decide +kernel
theorem dX10_where_1 : decode cX10_where 1 = .ok (.getfield 88, 3) := by decide +kernel
theorem dX10_where_4 : decode cX10_where 4 = .ok (.ireturn, 1) := by decide +kernel
theorem dX10_countAll_0 : decode cX10_countAll 0 = .ok (.iload_n 1, 1) := by decide +kernel
theorem dX10_countAll_1 : decode cX10_countAll 1 = .ok (.tableswitch 68 0 4 #[35, 40, 45, 58, 63], 35) := by decide +kernel
theorem dX10_countAll_36 : decode cX10_countAll 36 = .ok (.aload_n 0, 1) := by decide +kernel
theorem dX10_countAll_37 : decode cX10_countAll 37 = .ok (.getfield 128, 3) := by decide +kernel
theorem dX10_countAll_40 : decode cX10_countAll 40 = .ok (.ireturn, 1) := by decide +kernel
theorem dX10_countAll_41 : decode cX10_countAll 41 = .ok (.aload_n 0, 1) := by decide +kernel
theorem dX10_countAll_42 : decode cX10_countAll 42 = .ok (.getfield 131, 3) := by decide +kernel
theorem dX10_countAll_45 : decode cX10_countAll 45 = .ok (.ireturn, 1) := by decide +kernel
theorem dX10_countAll_46 : decode cX10_countAll 46 = .ok (.aload_n 0, 1) := by decide +kernel
theorem dX10_countAll_47 : decode cX10_countAll 47 = .ok (.getfield 110, 3) := by decide +kernel
theorem dX10_countAll_50 : decode cX10_countAll 50 = .ok (.ifCond .eq 7, 3) := by decide +kernel
theorem dX10_countAll_53 : decode cX10_countAll 53 = .ok (.iconst 1, 1) := by decide +kernel
theorem dX10_countAll_54 : decode cX10_countAll 54 = .ok (.goto 4, 3) := by decide +kernel
theorem dX10_countAll_57 : decode cX10_countAll 57 = .ok (.iconst 0, 1) := by decide +kernel
theorem dX10_countAll_58 : decode cX10_countAll 58 = .ok (.ireturn, 1) := by decide +kernel
theorem dX10_countAll_59 : decode cX10_countAll 59 = .ok (.aload_n 0, 1) := by decide +kernel
theorem dX10_countAll_60 : decode cX10_countAll 60 = .ok (.getfield 180, 3) := by decide +kernel
theorem dX10_countAll_63 : decode cX10_countAll 63 = .ok (.ireturn, 1) := by decide +kernel
theorem dX10_countAll_64 : decode cX10_countAll 64 = .ok (.aload_n 0, 1) := by decide +kernel
theorem dX10_countAll_65 : decode cX10_countAll 65 = .ok (.getfield 191, 3) := by decide +kernel
theorem dX10_countAll_68 : decode cX10_countAll 68 = .ok (.ireturn, 1) := by decide +kernel
theorem dX10_countAll_69 : decode cX10_countAll 69 = .ok (.bipush (-2), 2) := by decide +kernel
theorem dX10_countAll_71 : decode cX10_countAll 71 = .ok (.ireturn, 1) := by decide +kernel
theorem dX10_count_0 : decode cX10_count 0 = .ok (.iload_n 1, 1) := by decide +kernel
theorem dX10_count_1 : decode cX10_count 1 = .ok (.iconst (-1), 1) := by decide +kernel
theorem dX10_count_2 : decode cX10_count 2 = .ok (.if_icmp .ne 9, 3) := by decide +kernel
theorem dX10_count_5 : decode cX10_count 5 = .ok (.aload_n 0, 1) := by decide +kernel
theorem dX10_count_6 : decode cX10_count 6 = .ok (.iload_n 2, 1) := by decide +kernel
theorem dX10_count_7 : decode cX10_count 7 = .ok (.invokevirtual 247, 3) := by decide +kernel
theorem dX10_count_10 : decode cX10_count 10 = .ok (.ireturn, 1) := by decide +kernel
theorem dX10_count_11 : decode cX10_count 11 = .ok (.aload_n 0, 1) := by decide +kernel
theorem dX10_count_12 : decode cX10_count 12 = .ok (.iload_n 1, 1) := by decide +kernel
theorem dX10_count_13 : decode cX10_count 13 = .ok (.invokevirtual 134, 3) := by decide +kernel
theorem dX10_count_16 : decode cX10_count 16 = .ok (.ifCond .eq 12, 3) := by decide +kernel
theorem dX10_count_19 : decode cX10_count 19 = .ok (.iload_n 2, 1) := by decide +kernel
theorem dX10_count_20 : decode cX10_count 20 = .ok (.ifCond .lt 8, 3) := by decide +kernel
theorem dX10_count_23 : decode cX10_count 23 = .ok (.iload_n 2, 1) := by decide +kernel
theorem dX10_count_24 : decode cX10_count 24 = .ok (.iconst 4, 1) := by decide +kernel
theorem dX10_count_25 : decode cX10_count 25 = .ok (.if_icmp .le 6, 3) := by decide +kernel
theorem dX10_count_28 : decode cX10_count 28 = .ok (.bipush (-2), 2) := by decide +kernel
theorem dX10_count_30 : decode cX10_count 30 = .ok (.ireturn, 1) := by decide +kernel
theorem dX10_count_31 : decode cX10_count 31 = .ok (.iload_n 2, 1) := by decide +kernel
theorem dX10_count_32 : decode cX10_count 32 = .ok (.ifCond .ne 12, 3) := by decide +kernel
theorem dX10_count_35 : decode cX10_count 35 = .ok (.aload_n 0, 1) := by decide +kernel
theorem dX10_count_36 : decode cX10_count 36 = .ok (.getfield 29, 3) := by decide +kernel
theorem dX10_count_39 : decode cX10_count 39 = .ok (.iload_n 1, 1) := by decide +kernel
theorem dX10_count_40 : decode cX10_count 40 = .ok (.iaload, 1) := by decide +kernel
theorem dX10_count_41 : decode cX10_count 41 = .ok (.goto 58, 3) := by decide +kernel
theorem dX10_count_44 : decode cX10_count 44 = .ok (.iload_n 2, 1) := by decide +kernel
theorem dX10_count_45 : decode cX10_count 45 = .ok (.iconst 1, 1) := by decide +kernel
theorem dX10_count_46 : decode cX10_count 46 = .ok (.if_icmp .ne 11, 3) := by decide +kernel
theorem dX10_count_49 : decode cX10_count 49 = .ok (.aload_n 0, 1) := by decide +kernel
theorem dX10_count_50 : decode cX10_count 50 = .ok (.iload_n 1, 1) := by decide +kernel
theorem dX10_count_51 : decode cX10_count 51 = .ok (.invokevirtual 155, 3) := by decide +kernel
theorem dX10_count_54 : decode cX10_count 54 = .ok (.goto 45, 3) := by decide +kernel
theorem dX10_count_57 : decode cX10_count 57 = .ok (.iload_n 2, 1) := by decide +kernel
theorem dX10_count_58 : decode cX10_count 58 = .ok (.iconst 2, 1) := by decide +kernel
theorem dX10_count_59 : decode cX10_count 59 = .ok (.if_icmp .ne 20, 3) := by decide +kernel
theorem dX10_count_62 : decode cX10_count 62 = .ok (.aload_n 0, 1) := by decide +kernel
theorem dX10_count_63 : decode cX10_count 63 = .ok (.getfield 32, 3) := by decide +kernel
theorem dX10_count_66 : decode cX10_count 66 = .ok (.iload_n 1, 1) := by decide +kernel
theorem dX10_count_67 : decode cX10_count 67 = .ok (.baload, 1) := by decide +kernel
theorem dX10_count_68 : decode cX10_count 68 = .ok (.ifCond .eq 7, 3) := by decide +kernel
theorem dX10_count_71 : decode cX10_count 71 = .ok (.iconst 1, 1) := by decide +kernel
theorem dX10_count_72 : decode cX10_count 72 = .ok (.goto 27, 3) := by decide +kernel
theorem dX10_count_75 : decode cX10_count 75 = .ok (.iconst 0, 1) := by decide +kernel
theorem dX10_count_76 : decode cX10_count 76 = .ok (.goto 23, 3) := by decide +kernel
theorem dX10_count_79 : decode cX10_count 79 = .ok (.iload_n 2, 1) := by decide +kernel
theorem dX10_count_80 : decode cX10_count 80 = .ok (.iconst 3, 1) := by decide +kernel
theorem dX10_count_81 : decode cX10_count 81 = .ok (.if_icmp .ne 12, 3) := by decide +kernel
theorem dX10_count_84 : decode cX10_count 84 = .ok (.aload_n 0, 1) := by decide +kernel
theorem dX10_count_85 : decode cX10_count 85 = .ok (.getfield 35, 3) := by decide +kernel
theorem dX10_count_88 : decode cX10_count 88 = .ok (.iload_n 1, 1) := by decide +kernel
theorem dX10_count_89 : decode cX10_count 89 = .ok (.iaload, 1) := by decide +kernel
theorem dX10_count_90 : decode cX10_count 90 = .ok (.goto 9, 3) := by decide +kernel
theorem dX10_count_93 : decode cX10_count 93 = .ok (.aload_n 0, 1) := by decide +kernel
theorem dX10_count_94 : decode cX10_count 94 = .ok (.getfield 42, 3) := by decide +kernel
theorem dX10_count_97 : decode cX10_count 97 = .ok (.iload_n 1, 1) := by decide +kernel
theorem dX10_count_98 : decode cX10_count 98 = .ok (.iaload, 1) := by decide +kernel
theorem dX10_count_99 : decode cX10_count 99 = .ok (.ireturn, 1) := by decide +kernel
theorem dX10_findEdges_0 : decode cX10_findEdges 0 = .ok (.iconst 1, 1) := by decide +kernel
theorem dX10_findEdges_1 : decode cX10_findEdges 1 = .ok (.istore_n 3, 1) := by decide +kernel
theorem dX10_findEdges_2 : decode cX10_findEdges 2 = .ok (.aload_n 0, 1) := by decide +kernel
theorem dX10_findEdges_3 : decode cX10_findEdges 3 = .ok (.getfield 94, 3) := by decide +kernel
theorem dX10_findEdges_6 : decode cX10_findEdges 6 = .ok (.bipush 34, 2) := by decide +kernel
theorem dX10_findEdges_8 : decode cX10_findEdges 8 = .ok (.iload_n 2, 1) := by decide +kernel
theorem dX10_findEdges_9 : decode cX10_findEdges 9 = .ok (.imul, 1) := by decide +kernel
theorem dX10_findEdges_10 : decode cX10_findEdges 10 = .ok (.ldc2_w 250, 3) := by decide +kernel
theorem dX10_findEdges_13 : decode cX10_findEdges 13 = .ok (.lastore, 1) := by decide +kernel
theorem dX10_findEdges_14 : decode cX10_findEdges 14 = .ok (.ldc2_w 250, 3) := by decide +kernel
theorem dX10_findEdges_17 : decode cX10_findEdges 17 = .ok (.lstore 4, 2) := by decide +kernel
theorem dX10_findEdges_19 : decode cX10_findEdges 19 = .ok (.iconst 1, 1) := by decide +kernel
theorem dX10_findEdges_20 : decode cX10_findEdges 20 = .ok (.istore 6, 2) := by decide +kernel
theorem dX10_findEdges_22 : decode cX10_findEdges 22 = .ok (.iload 6, 2) := by decide +kernel
theorem dX10_findEdges_24 : decode cX10_findEdges 24 = .ok (.ifCond .eq 160, 3) := by decide +kernel
theorem dX10_findEdges_27 : decode cX10_findEdges 27 = .ok (.ldc2_w 174, 3) := by decide +kernel
theorem dX10_findEdges_30 : decode cX10_findEdges 30 = .ok (.lstore 7, 2) := by decide +kernel
theorem dX10_findEdges_32 : decode cX10_findEdges 32 = .ok (.iconst 0, 1) := by decide +kernel
theorem dX10_findEdges_33 : decode cX10_findEdges 33 = .ok (.istore 9, 2) := by decide +kernel
theorem dX10_findEdges_35 : decode cX10_findEdges 35 = .ok (.iload 9, 2) := by decide +kernel
theorem dX10_findEdges_37 : decode cX10_findEdges 37 = .ok (.aload_n 0, 1) := by decide +kernel
theorem dX10_findEdges_38 : decode cX10_findEdges 38 = .ok (.getfield 131, 3) := by decide +kernel
theorem dX10_findEdges_41 : decode cX10_findEdges 41 = .ok (.if_icmp .ge 99, 3) := by decide +kernel
theorem dX10_findEdges_44 : decode cX10_findEdges 44 = .ok (.aload_n 0, 1) := by decide +kernel
theorem dX10_findEdges_45 : decode cX10_findEdges 45 = .ok (.iload 9, 2) := by decide +kernel
theorem dX10_findEdges_47 : decode cX10_findEdges 47 = .ok (.iload_n 1, 1) := by decide +kernel
theorem dX10_findEdges_48 : decode cX10_findEdges 48 = .ok (.invokevirtual 145, 3) := by decide +kernel
theorem dX10_findEdges_51 : decode cX10_findEdges 51 = .ok (.ifCond .eq 83, 3) := by decide +kernel
theorem dX10_findEdges_54 : decode cX10_findEdges 54 = .ok (.aload_n 0, 1) := by decide +kernel
theorem dX10_findEdges_55 : decode cX10_findEdges 55 = .ok (.getfield 63, 3) := by decide +kernel
theorem dX10_findEdges_58 : decode cX10_findEdges 58 = .ok (.iconst 2, 1) := by decide +kernel
theorem dX10_findEdges_59 : decode cX10_findEdges 59 = .ok (.iload 9, 2) := by decide +kernel
theorem dX10_findEdges_61 : decode cX10_findEdges 61 = .ok (.imul, 1) := by decide +kernel
theorem dX10_findEdges_62 : decode cX10_findEdges 62 = .ok (.iload_n 2, 1) := by decide +kernel
theorem dX10_findEdges_63 : decode cX10_findEdges 63 = .ok (.iadd, 1) := by decide +kernel
theorem dX10_findEdges_64 : decode cX10_findEdges 64 = .ok (.iaload, 1) := by decide +kernel
theorem dX10_findEdges_65 : decode cX10_findEdges 65 = .ok (.i2l, 1) := by decide +kernel
theorem dX10_findEdges_66 : decode cX10_findEdges 66 = .ok (.lstore 10, 2) := by decide +kernel
theorem dX10_findEdges_68 : decode cX10_findEdges 68 = .ok (.aload_n 0, 1) := by decide +kernel
theorem dX10_findEdges_69 : decode cX10_findEdges 69 = .ok (.getfield 66, 3) := by decide +kernel
theorem dX10_findEdges_72 : decode cX10_findEdges 72 = .ok (.iconst 2, 1) := by decide +kernel
theorem dX10_findEdges_73 : decode cX10_findEdges 73 = .ok (.iload 9, 2) := by decide +kernel
theorem dX10_findEdges_75 : decode cX10_findEdges 75 = .ok (.imul, 1) := by decide +kernel
theorem dX10_findEdges_76 : decode cX10_findEdges 76 = .ok (.iload_n 2, 1) := by decide +kernel
theorem dX10_findEdges_77 : decode cX10_findEdges 77 = .ok (.iadd, 1) := by decide +kernel
theorem dX10_findEdges_78 : decode cX10_findEdges 78 = .ok (.iaload, 1) := by decide +kernel
theorem dX10_findEdges_79 : decode cX10_findEdges 79 = .ok (.i2l, 1) := by decide +kernel
theorem dX10_findEdges_80 : decode cX10_findEdges 80 = .ok (.lconst 1, 1) := by decide +kernel
theorem dX10_findEdges_81 : decode cX10_findEdges 81 = .ok (.ladd, 1) := by decide +kernel
theorem dX10_findEdges_82 : decode cX10_findEdges 82 = .ok (.lstore 12, 2) := by decide +kernel
theorem dX10_findEdges_84 : decode cX10_findEdges 84 = .ok (.lload 10, 2) := by decide +kernel
theorem dX10_findEdges_86 : decode cX10_findEdges 86 = .ok (.lload 4, 2) := by decide +kernel
theorem dX10_findEdges_88 : decode cX10_findEdges 88 = .ok (.lcmp, 1) := by decide +kernel
theorem dX10_findEdges_89 : decode cX10_findEdges 89 = .ok (.ifCond .le 16, 3) := by decide +kernel
theorem dX10_findEdges_92 : decode cX10_findEdges 92 = .ok (.lload 10, 2) := by decide +kernel
theorem dX10_findEdges_94 : decode cX10_findEdges 94 = .ok (.lload 7, 2) := by decide +kernel
theorem dX10_findEdges_96 : decode cX10_findEdges 96 = .ok (.lcmp, 1) := by decide +kernel
theorem dX10_findEdges_97 : decode cX10_findEdges 97 = .ok (.ifCond .ge 8, 3) := by decide +kernel
theorem dX10_findEdges_100 : decode cX10_findEdges 100 = .ok (.lload 10, 2) := by decide +kernel
theorem dX10_findEdges_102 : decode cX10_findEdges 102 = .ok (.goto 5, 3) := by decide +kernel
theorem dX10_findEdges_105 : decode cX10_findEdges 105 = .ok (.lload 7, 2) := by decide +kernel
theorem dX10_findEdges_107 : decode cX10_findEdges 107 = .ok (.lstore 7, 2) := by decide +kernel
theorem dX10_findEdges_109 : decode cX10_findEdges 109 = .ok (.lload 12, 2) := by decide +kernel
theorem dX10_findEdges_111 : decode cX10_findEdges 111 = .ok (.lload 4, 2) := by decide +kernel
theorem dX10_findEdges_113 : decode cX10_findEdges 113 = .ok (.lcmp, 1) := by decide +kernel
theorem dX10_findEdges_114 : decode cX10_findEdges 114 = .ok (.ifCond .le 16, 3) := by decide +kernel
theorem dX10_findEdges_117 : decode cX10_findEdges 117 = .ok (.lload 12, 2) := by decide +kernel
theorem dX10_findEdges_119 : decode cX10_findEdges 119 = .ok (.lload 7, 2) := by decide +kernel
theorem dX10_findEdges_121 : decode cX10_findEdges 121 = .ok (.lcmp, 1) := by decide +kernel
theorem dX10_findEdges_122 : decode cX10_findEdges 122 = .ok (.ifCond .ge 8, 3) := by decide +kernel
theorem dX10_findEdges_125 : decode cX10_findEdges 125 = .ok (.lload 12, 2) := by decide +kernel
theorem dX10_findEdges_127 : decode cX10_findEdges 127 = .ok (.goto 5, 3) := by decide +kernel
theorem dX10_findEdges_130 : decode cX10_findEdges 130 = .ok (.lload 7, 2) := by decide +kernel
theorem dX10_findEdges_132 : decode cX10_findEdges 132 = .ok (.lstore 7, 2) := by decide +kernel
theorem dX10_findEdges_134 : decode cX10_findEdges 134 = .ok (.iinc 9 1, 3) := by decide +kernel
theorem dX10_findEdges_137 : decode cX10_findEdges 137 = .ok (.goto (-102), 3) := by decide +kernel
theorem dX10_findEdges_140 : decode cX10_findEdges 140 = .ok (.lload 7, 2) := by decide +kernel
theorem dX10_findEdges_142 : decode cX10_findEdges 142 = .ok (.ldc2_w 174, 3) := by decide +kernel
theorem dX10_findEdges_145 : decode cX10_findEdges 145 = .ok (.lcmp, 1) := by decide +kernel
theorem dX10_findEdges_146 : decode cX10_findEdges 146 = .ok (.ifCond .ge 7, 3) := by decide +kernel
theorem dX10_findEdges_149 : decode cX10_findEdges 149 = .ok (.iconst 1, 1) := by decide +kernel
theorem dX10_findEdges_150 : decode cX10_findEdges 150 = .ok (.goto 4, 3) := by decide +kernel
theorem dX10_findEdges_153 : decode cX10_findEdges 153 = .ok (.iconst 0, 1) := by decide +kernel
theorem dX10_findEdges_154 : decode cX10_findEdges 154 = .ok (.istore 6, 2) := by decide +kernel
theorem dX10_findEdges_156 : decode cX10_findEdges 156 = .ok (.iload 6, 2) := by decide +kernel
theorem dX10_findEdges_158 : decode cX10_findEdges 158 = .ok (.ifCond .eq 23, 3) := by decide +kernel
theorem dX10_findEdges_161 : decode cX10_findEdges 161 = .ok (.aload_n 0, 1) := by decide +kernel
theorem dX10_findEdges_162 : decode cX10_findEdges 162 = .ok (.getfield 94, 3) := by decide +kernel
theorem dX10_findEdges_165 : decode cX10_findEdges 165 = .ok (.bipush 34, 2) := by decide +kernel
theorem dX10_findEdges_167 : decode cX10_findEdges 167 = .ok (.iload_n 2, 1) := by decide +kernel
theorem dX10_findEdges_168 : decode cX10_findEdges 168 = .ok (.imul, 1) := by decide +kernel
theorem dX10_findEdges_169 : decode cX10_findEdges 169 = .ok (.iload_n 3, 1) := by decide +kernel
theorem dX10_findEdges_170 : decode cX10_findEdges 170 = .ok (.iadd, 1) := by decide +kernel
theorem dX10_findEdges_171 : decode cX10_findEdges 171 = .ok (.lload 7, 2) := by decide +kernel
theorem dX10_findEdges_173 : decode cX10_findEdges 173 = .ok (.lastore, 1) := by decide +kernel
theorem dX10_findEdges_174 : decode cX10_findEdges 174 = .ok (.iinc 3 1, 3) := by decide +kernel
theorem dX10_findEdges_177 : decode cX10_findEdges 177 = .ok (.lload 7, 2) := by decide +kernel
theorem dX10_findEdges_179 : decode cX10_findEdges 179 = .ok (.lstore 4, 2) := by decide +kernel
theorem dX10_findEdges_181 : decode cX10_findEdges 181 = .ok (.goto (-159), 3) := by decide +kernel
theorem dX10_findEdges_184 : decode cX10_findEdges 184 = .ok (.aload_n 0, 1) := by decide +kernel
theorem dX10_findEdges_185 : decode cX10_findEdges 185 = .ok (.getfield 97, 3) := by decide +kernel
theorem dX10_findEdges_188 : decode cX10_findEdges 188 = .ok (.iload_n 2, 1) := by decide +kernel
theorem dX10_findEdges_189 : decode cX10_findEdges 189 = .ok (.iload_n 3, 1) := by decide +kernel
theorem dX10_findEdges_190 : decode cX10_findEdges 190 = .ok (.iastore, 1) := by decide +kernel
theorem dX10_findEdges_191 : decode cX10_findEdges 191 = .ok (.return_, 1) := by decide +kernel
theorem dX10_nextClass_0 : decode cX10_nextClass 0 = .ok (.iload_n 1, 1) := by decide +kernel
theorem dX10_nextClass_1 : decode cX10_nextClass 1 = .ok (.istore_n 2, 1) := by decide +kernel
theorem dX10_nextClass_2 : decode cX10_nextClass 2 = .ok (.iload_n 2, 1) := by decide +kernel
theorem dX10_nextClass_3 : decode cX10_nextClass 3 = .ok (.bipush 12, 2) := by decide +kernel
theorem dX10_nextClass_5 : decode cX10_nextClass 5 = .ok (.if_icmp .ge 18, 3) := by decide +kernel
theorem dX10_nextClass_8 : decode cX10_nextClass 8 = .ok (.aload_n 0, 1) := by decide +kernel
theorem dX10_nextClass_9 : decode cX10_nextClass 9 = .ok (.getfield 20, 3) := by decide +kernel
theorem dX10_nextClass_12 : decode cX10_nextClass 12 = .ok (.iload_n 2, 1) := by decide +kernel
theorem dX10_nextClass_13 : decode cX10_nextClass 13 = .ok (.baload, 1) := by decide +kernel
theorem dX10_nextClass_14 : decode cX10_nextClass 14 = .ok (.ifCond .eq 9, 3) := by decide +kernel
theorem dX10_nextClass_17 : decode cX10_nextClass 17 = .ok (.iinc 2 1, 3) := by decide +kernel
theorem dX10_nextClass_20 : decode cX10_nextClass 20 = .ok (.goto (-18), 3) := by decide +kernel
theorem dX10_nextClass_23 : decode cX10_nextClass 23 = .ok (.iload_n 2, 1) := by decide +kernel
theorem dX10_nextClass_24 : decode cX10_nextClass 24 = .ok (.ireturn, 1) := by decide +kernel
theorem dX10_firstTuple_0 : decode cX10_firstTuple 0 = .ok (.iconst 0, 1) := by decide +kernel
theorem dX10_firstTuple_1 : decode cX10_firstTuple 1 = .ok (.istore_n 2, 1) := by decide +kernel
theorem dX10_firstTuple_2 : decode cX10_firstTuple 2 = .ok (.iload_n 2, 1) := by decide +kernel
theorem dX10_firstTuple_3 : decode cX10_firstTuple 3 = .ok (.iconst 2, 1) := by decide +kernel
theorem dX10_firstTuple_4 : decode cX10_firstTuple 4 = .ok (.if_icmp .ge 80, 3) := by decide +kernel
theorem dX10_firstTuple_7 : decode cX10_firstTuple 7 = .ok (.aload_n 0, 1) := by decide +kernel
theorem dX10_firstTuple_8 : decode cX10_firstTuple 8 = .ok (.getfield 82, 3) := by decide +kernel
theorem dX10_firstTuple_11 : decode cX10_firstTuple 11 = .ok (.iload_n 2, 1) := by decide +kernel
theorem dX10_firstTuple_12 : decode cX10_firstTuple 12 = .ok (.iload_n 2, 1) := by decide +kernel
theorem dX10_firstTuple_13 : decode cX10_firstTuple 13 = .ok (.aload_n 0, 1) := by decide +kernel
theorem dX10_firstTuple_14 : decode cX10_firstTuple 14 = .ok (.getfield 29, 3) := by decide +kernel
theorem dX10_firstTuple_17 : decode cX10_firstTuple 17 = .ok (.iload_n 1, 1) := by decide +kernel
theorem dX10_firstTuple_18 : decode cX10_firstTuple 18 = .ok (.iaload, 1) := by decide +kernel
theorem dX10_firstTuple_19 : decode cX10_firstTuple 19 = .ok (.if_icmp .ge 11, 3) := by decide +kernel
theorem dX10_firstTuple_22 : decode cX10_firstTuple 22 = .ok (.aload_n 0, 1) := by decide +kernel
theorem dX10_firstTuple_23 : decode cX10_firstTuple 23 = .ok (.iconst 0, 1) := by decide +kernel
theorem dX10_firstTuple_24 : decode cX10_firstTuple 24 = .ok (.invokevirtual 252, 3) := by decide +kernel
theorem dX10_firstTuple_27 : decode cX10_firstTuple 27 = .ok (.goto 4, 3) := by decide +kernel
theorem dX10_firstTuple_30 : decode cX10_firstTuple 30 = .ok (.iconst 0, 1) := by decide +kernel
theorem dX10_firstTuple_31 : decode cX10_firstTuple 31 = .ok (.iastore, 1) := by decide +kernel
theorem dX10_firstTuple_32 : decode cX10_firstTuple 32 = .ok (.aload_n 0, 1) := by decide +kernel
theorem dX10_firstTuple_33 : decode cX10_firstTuple 33 = .ok (.getfield 85, 3) := by decide +kernel
theorem dX10_firstTuple_36 : decode cX10_firstTuple 36 = .ok (.iload_n 2, 1) := by decide +kernel
theorem dX10_firstTuple_37 : decode cX10_firstTuple 37 = .ok (.iload_n 2, 1) := by decide +kernel
theorem dX10_firstTuple_38 : decode cX10_firstTuple 38 = .ok (.aload_n 0, 1) := by decide +kernel
theorem dX10_firstTuple_39 : decode cX10_firstTuple 39 = .ok (.getfield 29, 3) := by decide +kernel
theorem dX10_firstTuple_42 : decode cX10_firstTuple 42 = .ok (.iload_n 1, 1) := by decide +kernel
theorem dX10_firstTuple_43 : decode cX10_firstTuple 43 = .ok (.iaload, 1) := by decide +kernel
theorem dX10_firstTuple_44 : decode cX10_firstTuple 44 = .ok (.if_icmp .ge 9, 3) := by decide +kernel
theorem dX10_firstTuple_47 : decode cX10_firstTuple 47 = .ok (.ldc2_w 250, 3) := by decide +kernel
theorem dX10_firstTuple_50 : decode cX10_firstTuple 50 = .ok (.goto 4, 3) := by decide +kernel
theorem dX10_firstTuple_53 : decode cX10_firstTuple 53 = .ok (.lconst 0, 1) := by decide +kernel
theorem dX10_firstTuple_54 : decode cX10_firstTuple 54 = .ok (.lastore, 1) := by decide +kernel
theorem dX10_firstTuple_55 : decode cX10_firstTuple 55 = .ok (.aload_n 0, 1) := by decide +kernel
theorem dX10_firstTuple_56 : decode cX10_firstTuple 56 = .ok (.getfield 100, 3) := by decide +kernel
theorem dX10_firstTuple_59 : decode cX10_firstTuple 59 = .ok (.iload_n 2, 1) := by decide +kernel
theorem dX10_firstTuple_60 : decode cX10_firstTuple 60 = .ok (.iconst 0, 1) := by decide +kernel
theorem dX10_firstTuple_61 : decode cX10_firstTuple 61 = .ok (.iastore, 1) := by decide +kernel
theorem dX10_firstTuple_62 : decode cX10_firstTuple 62 = .ok (.iload_n 2, 1) := by decide +kernel
theorem dX10_firstTuple_63 : decode cX10_firstTuple 63 = .ok (.aload_n 0, 1) := by decide +kernel
theorem dX10_firstTuple_64 : decode cX10_firstTuple 64 = .ok (.getfield 29, 3) := by decide +kernel
theorem dX10_firstTuple_67 : decode cX10_firstTuple 67 = .ok (.iload_n 1, 1) := by decide +kernel
theorem dX10_firstTuple_68 : decode cX10_firstTuple 68 = .ok (.iaload, 1) := by decide +kernel
theorem dX10_firstTuple_69 : decode cX10_firstTuple 69 = .ok (.if_icmp .ge 9, 3) := by decide +kernel
theorem dX10_firstTuple_72 : decode cX10_firstTuple 72 = .ok (.aload_n 0, 1) := by decide +kernel
theorem dX10_firstTuple_73 : decode cX10_firstTuple 73 = .ok (.iload_n 1, 1) := by decide +kernel
theorem dX10_firstTuple_74 : decode cX10_firstTuple 74 = .ok (.iload_n 2, 1) := by decide +kernel
theorem dX10_firstTuple_75 : decode cX10_firstTuple 75 = .ok (.invokevirtual 255, 3) := by decide +kernel
theorem dX10_firstTuple_78 : decode cX10_firstTuple 78 = .ok (.iinc 2 1, 3) := by decide +kernel
theorem dX10_firstTuple_81 : decode cX10_firstTuple 81 = .ok (.goto (-79), 3) := by decide +kernel
theorem dX10_firstTuple_84 : decode cX10_firstTuple 84 = .ok (.aload_n 0, 1) := by decide +kernel
theorem dX10_firstTuple_85 : decode cX10_firstTuple 85 = .ok (.iconst 0, 1) := by decide +kernel
theorem dX10_firstTuple_86 : decode cX10_firstTuple 86 = .ok (.invokevirtual 252, 3) := by decide +kernel
theorem dX10_firstTuple_89 : decode cX10_firstTuple 89 = .ok (.bipush 12, 2) := by decide +kernel
theorem dX10_firstTuple_91 : decode cX10_firstTuple 91 = .ok (.if_icmp .ge 7, 3) := by decide +kernel
theorem dX10_firstTuple_94 : decode cX10_firstTuple 94 = .ok (.iconst 1, 1) := by decide +kernel
theorem dX10_firstTuple_95 : decode cX10_firstTuple 95 = .ok (.goto 4, 3) := by decide +kernel
theorem dX10_firstTuple_98 : decode cX10_firstTuple 98 = .ok (.iconst 0, 1) := by decide +kernel
theorem dX10_firstTuple_99 : decode cX10_firstTuple 99 = .ok (.ireturn, 1) := by decide +kernel
theorem dX10_nextAt_0 : decode cX10_nextAt 0 = .ok (.aload_n 0, 1) := by decide +kernel
theorem dX10_nextAt_1 : decode cX10_nextAt 1 = .ok (.getfield 29, 3) := by decide +kernel
theorem dX10_nextAt_4 : decode cX10_nextAt 4 = .ok (.iload_n 1, 1) := by decide +kernel
theorem dX10_nextAt_5 : decode cX10_nextAt 5 = .ok (.iaload, 1) := by decide +kernel
theorem dX10_nextAt_6 : decode cX10_nextAt 6 = .ok (.iconst 1, 1) := by decide +kernel
theorem dX10_nextAt_7 : decode cX10_nextAt 7 = .ok (.isub, 1) := by decide +kernel
theorem dX10_nextAt_8 : decode cX10_nextAt 8 = .ok (.istore_n 3, 1) := by decide +kernel
theorem dX10_nextAt_9 : decode cX10_nextAt 9 = .ok (.iload_n 3, 1) := by decide +kernel
theorem dX10_nextAt_10 : decode cX10_nextAt 10 = .ok (.iload_n 2, 1) := by decide +kernel
theorem dX10_nextAt_11 : decode cX10_nextAt 11 = .ok (.if_icmp .le 36, 3) := by decide +kernel
theorem dX10_nextAt_14 : decode cX10_nextAt 14 = .ok (.aload_n 0, 1) := by decide +kernel
theorem dX10_nextAt_15 : decode cX10_nextAt 15 = .ok (.getfield 82, 3) := by decide +kernel
theorem dX10_nextAt_18 : decode cX10_nextAt 18 = .ok (.iload_n 3, 1) := by decide +kernel
theorem dX10_nextAt_19 : decode cX10_nextAt 19 = .ok (.aload_n 0, 1) := by decide +kernel
theorem dX10_nextAt_20 : decode cX10_nextAt 20 = .ok (.iconst 0, 1) := by decide +kernel
theorem dX10_nextAt_21 : decode cX10_nextAt 21 = .ok (.invokevirtual 252, 3) := by decide +kernel
theorem dX10_nextAt_24 : decode cX10_nextAt 24 = .ok (.iastore, 1) := by decide +kernel
theorem dX10_nextAt_25 : decode cX10_nextAt 25 = .ok (.aload_n 0, 1) := by decide +kernel
theorem dX10_nextAt_26 : decode cX10_nextAt 26 = .ok (.getfield 85, 3) := by decide +kernel
theorem dX10_nextAt_29 : decode cX10_nextAt 29 = .ok (.iload_n 3, 1) := by decide +kernel
theorem dX10_nextAt_30 : decode cX10_nextAt 30 = .ok (.ldc2_w 250, 3) := by decide +kernel
theorem dX10_nextAt_33 : decode cX10_nextAt 33 = .ok (.lastore, 1) := by decide +kernel
theorem dX10_nextAt_34 : decode cX10_nextAt 34 = .ok (.aload_n 0, 1) := by decide +kernel
theorem dX10_nextAt_35 : decode cX10_nextAt 35 = .ok (.getfield 100, 3) := by decide +kernel
theorem dX10_nextAt_38 : decode cX10_nextAt 38 = .ok (.iload_n 3, 1) := by decide +kernel
theorem dX10_nextAt_39 : decode cX10_nextAt 39 = .ok (.iconst 0, 1) := by decide +kernel
theorem dX10_nextAt_40 : decode cX10_nextAt 40 = .ok (.iastore, 1) := by decide +kernel
theorem dX10_nextAt_41 : decode cX10_nextAt 41 = .ok (.iinc 3 (-1), 3) := by decide +kernel
theorem dX10_nextAt_44 : decode cX10_nextAt 44 = .ok (.goto (-35), 3) := by decide +kernel
theorem dX10_nextAt_47 : decode cX10_nextAt 47 = .ok (.iload_n 2, 1) := by decide +kernel
theorem dX10_nextAt_48 : decode cX10_nextAt 48 = .ok (.istore_n 3, 1) := by decide +kernel
theorem dX10_nextAt_49 : decode cX10_nextAt 49 = .ok (.iload_n 3, 1) := by decide +kernel
theorem dX10_nextAt_50 : decode cX10_nextAt 50 = .ok (.ifCond .lt 116, 3) := by decide +kernel
theorem dX10_nextAt_53 : decode cX10_nextAt 53 = .ok (.aload_n 0, 1) := by decide +kernel
theorem dX10_nextAt_54 : decode cX10_nextAt 54 = .ok (.getfield 100, 3) := by decide +kernel
theorem dX10_nextAt_57 : decode cX10_nextAt 57 = .ok (.iload_n 3, 1) := by decide +kernel
theorem dX10_nextAt_58 : decode cX10_nextAt 58 = .ok (.dup2, 1) := by decide +kernel
theorem dX10_nextAt_59 : decode cX10_nextAt 59 = .ok (.iaload, 1) := by decide +kernel
theorem dX10_nextAt_60 : decode cX10_nextAt 60 = .ok (.iconst 1, 1) := by decide +kernel
theorem dX10_nextAt_61 : decode cX10_nextAt 61 = .ok (.iadd, 1) := by decide +kernel
theorem dX10_nextAt_62 : decode cX10_nextAt 62 = .ok (.iastore, 1) := by decide +kernel
theorem dX10_nextAt_63 : decode cX10_nextAt 63 = .ok (.aload_n 0, 1) := by decide +kernel
theorem dX10_nextAt_64 : decode cX10_nextAt 64 = .ok (.getfield 100, 3) := by decide +kernel
theorem dX10_nextAt_67 : decode cX10_nextAt 67 = .ok (.iload_n 3, 1) := by decide +kernel
theorem dX10_nextAt_68 : decode cX10_nextAt 68 = .ok (.iaload, 1) := by decide +kernel
theorem dX10_nextAt_69 : decode cX10_nextAt 69 = .ok (.aload_n 0, 1) := by decide +kernel
theorem dX10_nextAt_70 : decode cX10_nextAt 70 = .ok (.getfield 97, 3) := by decide +kernel
theorem dX10_nextAt_73 : decode cX10_nextAt 73 = .ok (.iload_n 3, 1) := by decide +kernel
theorem dX10_nextAt_74 : decode cX10_nextAt 74 = .ok (.iaload, 1) := by decide +kernel
theorem dX10_nextAt_75 : decode cX10_nextAt 75 = .ok (.if_icmp .ge 27, 3) := by decide +kernel
theorem dX10_nextAt_78 : decode cX10_nextAt 78 = .ok (.aload_n 0, 1) := by decide +kernel
theorem dX10_nextAt_79 : decode cX10_nextAt 79 = .ok (.getfield 85, 3) := by decide +kernel
theorem dX10_nextAt_82 : decode cX10_nextAt 82 = .ok (.iload_n 3, 1) := by decide +kernel
theorem dX10_nextAt_83 : decode cX10_nextAt 83 = .ok (.aload_n 0, 1) := by decide +kernel
theorem dX10_nextAt_84 : decode cX10_nextAt 84 = .ok (.getfield 94, 3) := by decide +kernel
theorem dX10_nextAt_87 : decode cX10_nextAt 87 = .ok (.bipush 34, 2) := by decide +kernel
theorem dX10_nextAt_89 : decode cX10_nextAt 89 = .ok (.iload_n 3, 1) := by decide +kernel
theorem dX10_nextAt_90 : decode cX10_nextAt 90 = .ok (.imul, 1) := by decide +kernel
theorem dX10_nextAt_91 : decode cX10_nextAt 91 = .ok (.aload_n 0, 1) := by decide +kernel
theorem dX10_nextAt_92 : decode cX10_nextAt 92 = .ok (.getfield 100, 3) := by decide +kernel
theorem dX10_nextAt_95 : decode cX10_nextAt 95 = .ok (.iload_n 3, 1) := by decide +kernel
theorem dX10_nextAt_96 : decode cX10_nextAt 96 = .ok (.iaload, 1) := by decide +kernel
theorem dX10_nextAt_97 : decode cX10_nextAt 97 = .ok (.iadd, 1) := by decide +kernel
theorem dX10_nextAt_98 : decode cX10_nextAt 98 = .ok (.laload, 1) := by decide +kernel
theorem dX10_nextAt_99 : decode cX10_nextAt 99 = .ok (.lastore, 1) := by decide +kernel
theorem dX10_nextAt_100 : decode cX10_nextAt 100 = .ok (.iconst 1, 1) := by decide +kernel
theorem dX10_nextAt_101 : decode cX10_nextAt 101 = .ok (.ireturn, 1) := by decide +kernel
theorem dX10_nextAt_102 : decode cX10_nextAt 102 = .ok (.aload_n 0, 1) := by decide +kernel
theorem dX10_nextAt_103 : decode cX10_nextAt 103 = .ok (.getfield 100, 3) := by decide +kernel
theorem dX10_nextAt_106 : decode cX10_nextAt 106 = .ok (.iload_n 3, 1) := by decide +kernel
theorem dX10_nextAt_107 : decode cX10_nextAt 107 = .ok (.iconst 0, 1) := by decide +kernel
theorem dX10_nextAt_108 : decode cX10_nextAt 108 = .ok (.iastore, 1) := by decide +kernel
theorem dX10_nextAt_109 : decode cX10_nextAt 109 = .ok (.aload_n 0, 1) := by decide +kernel
theorem dX10_nextAt_110 : decode cX10_nextAt 110 = .ok (.getfield 85, 3) := by decide +kernel
theorem dX10_nextAt_113 : decode cX10_nextAt 113 = .ok (.iload_n 3, 1) := by decide +kernel
theorem dX10_nextAt_114 : decode cX10_nextAt 114 = .ok (.ldc2_w 250, 3) := by decide +kernel
theorem dX10_nextAt_117 : decode cX10_nextAt 117 = .ok (.lastore, 1) := by decide +kernel
theorem dX10_nextAt_118 : decode cX10_nextAt 118 = .ok (.aload_n 0, 1) := by decide +kernel
theorem dX10_nextAt_119 : decode cX10_nextAt 119 = .ok (.getfield 82, 3) := by decide +kernel
theorem dX10_nextAt_122 : decode cX10_nextAt 122 = .ok (.iload_n 3, 1) := by decide +kernel
theorem dX10_nextAt_123 : decode cX10_nextAt 123 = .ok (.aload_n 0, 1) := by decide +kernel
theorem dX10_nextAt_124 : decode cX10_nextAt 124 = .ok (.aload_n 0, 1) := by decide +kernel
theorem dX10_nextAt_125 : decode cX10_nextAt 125 = .ok (.getfield 82, 3) := by decide +kernel
theorem dX10_nextAt_128 : decode cX10_nextAt 128 = .ok (.iload_n 3, 1) := by decide +kernel
theorem dX10_nextAt_129 : decode cX10_nextAt 129 = .ok (.iaload, 1) := by decide +kernel
theorem dX10_nextAt_130 : decode cX10_nextAt 130 = .ok (.iconst 1, 1) := by decide +kernel
theorem dX10_nextAt_131 : decode cX10_nextAt 131 = .ok (.iadd, 1) := by decide +kernel
theorem dX10_nextAt_132 : decode cX10_nextAt 132 = .ok (.invokevirtual 252, 3) := by decide +kernel
theorem dX10_nextAt_135 : decode cX10_nextAt 135 = .ok (.iastore, 1) := by decide +kernel
theorem dX10_nextAt_136 : decode cX10_nextAt 136 = .ok (.aload_n 0, 1) := by decide +kernel
theorem dX10_nextAt_137 : decode cX10_nextAt 137 = .ok (.getfield 82, 3) := by decide +kernel
theorem dX10_nextAt_140 : decode cX10_nextAt 140 = .ok (.iload_n 3, 1) := by decide +kernel
theorem dX10_nextAt_141 : decode cX10_nextAt 141 = .ok (.iaload, 1) := by decide +kernel
theorem dX10_nextAt_142 : decode cX10_nextAt 142 = .ok (.bipush 12, 2) := by decide +kernel
theorem dX10_nextAt_144 : decode cX10_nextAt 144 = .ok (.if_icmp .ge 5, 3) := by decide +kernel
theorem dX10_nextAt_147 : decode cX10_nextAt 147 = .ok (.iconst 1, 1) := by decide +kernel
theorem dX10_nextAt_148 : decode cX10_nextAt 148 = .ok (.ireturn, 1) := by decide +kernel
theorem dX10_nextAt_149 : decode cX10_nextAt 149 = .ok (.aload_n 0, 1) := by decide +kernel
theorem dX10_nextAt_150 : decode cX10_nextAt 150 = .ok (.getfield 82, 3) := by decide +kernel
theorem dX10_nextAt_153 : decode cX10_nextAt 153 = .ok (.iload_n 3, 1) := by decide +kernel
theorem dX10_nextAt_154 : decode cX10_nextAt 154 = .ok (.aload_n 0, 1) := by decide +kernel
theorem dX10_nextAt_155 : decode cX10_nextAt 155 = .ok (.iconst 0, 1) := by decide +kernel
theorem dX10_nextAt_156 : decode cX10_nextAt 156 = .ok (.invokevirtual 252, 3) := by decide +kernel
theorem dX10_nextAt_159 : decode cX10_nextAt 159 = .ok (.iastore, 1) := by decide +kernel
theorem dX10_nextAt_160 : decode cX10_nextAt 160 = .ok (.iinc 3 (-1), 3) := by decide +kernel
theorem dX10_nextAt_163 : decode cX10_nextAt 163 = .ok (.goto (-114), 3) := by decide +kernel
theorem dX10_nextAt_166 : decode cX10_nextAt 166 = .ok (.iconst 0, 1) := by decide +kernel
theorem dX10_nextAt_167 : decode cX10_nextAt 167 = .ok (.ireturn, 1) := by decide +kernel
theorem dX10_nextTuple_0 : decode cX10_nextTuple 0 = .ok (.aload_n 0, 1) := by decide +kernel
theorem dX10_nextTuple_1 : decode cX10_nextTuple 1 = .ok (.iload_n 1, 1) := by decide +kernel
theorem dX10_nextTuple_2 : decode cX10_nextTuple 2 = .ok (.aload_n 0, 1) := by decide +kernel
theorem dX10_nextTuple_3 : decode cX10_nextTuple 3 = .ok (.getfield 29, 3) := by decide +kernel
theorem dX10_nextTuple_6 : decode cX10_nextTuple 6 = .ok (.iload_n 1, 1) := by decide +kernel
theorem dX10_nextTuple_7 : decode cX10_nextTuple 7 = .ok (.iaload, 1) := by decide +kernel
theorem dX10_nextTuple_8 : decode cX10_nextTuple 8 = .ok (.iconst 1, 1) := by decide +kernel
theorem dX10_nextTuple_9 : decode cX10_nextTuple 9 = .ok (.isub, 1) := by decide +kernel
theorem dX10_nextTuple_10 : decode cX10_nextTuple 10 = .ok (.invokevirtual 259, 3) := by decide +kernel
theorem dX10_nextTuple_13 : decode cX10_nextTuple 13 = .ok (.ireturn, 1) := by decide +kernel
theorem dX10_keepTuple_0 : decode cX10_keepTuple 0 = .ok (.iconst 0, 1) := by decide +kernel
theorem dX10_keepTuple_1 : decode cX10_keepTuple 1 = .ok (.istore_n 2, 1) := by decide +kernel
theorem dX10_keepTuple_2 : decode cX10_keepTuple 2 = .ok (.iload_n 2, 1) := by decide +kernel
theorem dX10_keepTuple_3 : decode cX10_keepTuple 3 = .ok (.iconst 2, 1) := by decide +kernel
theorem dX10_keepTuple_4 : decode cX10_keepTuple 4 = .ok (.if_icmp .ge 64, 3) := by decide +kernel
theorem dX10_keepTuple_7 : decode cX10_keepTuple 7 = .ok (.aload_n 0, 1) := by decide +kernel
theorem dX10_keepTuple_8 : decode cX10_keepTuple 8 = .ok (.getfield 103, 3) := by decide +kernel
theorem dX10_keepTuple_11 : decode cX10_keepTuple 11 = .ok (.iload_n 2, 1) := by decide +kernel
theorem dX10_keepTuple_12 : decode cX10_keepTuple 12 = .ok (.iload_n 2, 1) := by decide +kernel
theorem dX10_keepTuple_13 : decode cX10_keepTuple 13 = .ok (.aload_n 0, 1) := by decide +kernel
theorem dX10_keepTuple_14 : decode cX10_keepTuple 14 = .ok (.getfield 29, 3) := by decide +kernel
theorem dX10_keepTuple_17 : decode cX10_keepTuple 17 = .ok (.iload_n 1, 1) := by decide +kernel
theorem dX10_keepTuple_18 : decode cX10_keepTuple 18 = .ok (.iaload, 1) := by decide +kernel
theorem dX10_keepTuple_19 : decode cX10_keepTuple 19 = .ok (.if_icmp .ge 13, 3) := by decide +kernel
theorem dX10_keepTuple_22 : decode cX10_keepTuple 22 = .ok (.aload_n 0, 1) := by decide +kernel
theorem dX10_keepTuple_23 : decode cX10_keepTuple 23 = .ok (.getfield 82, 3) := by decide +kernel
theorem dX10_keepTuple_26 : decode cX10_keepTuple 26 = .ok (.iload_n 2, 1) := by decide +kernel
theorem dX10_keepTuple_27 : decode cX10_keepTuple 27 = .ok (.iaload, 1) := by decide +kernel
theorem dX10_keepTuple_28 : decode cX10_keepTuple 28 = .ok (.i2l, 1) := by decide +kernel
theorem dX10_keepTuple_29 : decode cX10_keepTuple 29 = .ok (.goto 4, 3) := by decide +kernel
theorem dX10_keepTuple_32 : decode cX10_keepTuple 32 = .ok (.lconst 0, 1) := by decide +kernel
theorem dX10_keepTuple_33 : decode cX10_keepTuple 33 = .ok (.lastore, 1) := by decide +kernel
theorem dX10_keepTuple_34 : decode cX10_keepTuple 34 = .ok (.aload_n 0, 1) := by decide +kernel
theorem dX10_keepTuple_35 : decode cX10_keepTuple 35 = .ok (.getfield 103, 3) := by decide +kernel
theorem dX10_keepTuple_38 : decode cX10_keepTuple 38 = .ok (.iconst 2, 1) := by decide +kernel
theorem dX10_keepTuple_39 : decode cX10_keepTuple 39 = .ok (.iload_n 2, 1) := by decide +kernel
theorem dX10_keepTuple_40 : decode cX10_keepTuple 40 = .ok (.iadd, 1) := by decide +kernel
theorem dX10_keepTuple_41 : decode cX10_keepTuple 41 = .ok (.iload_n 2, 1) := by decide +kernel
theorem dX10_keepTuple_42 : decode cX10_keepTuple 42 = .ok (.aload_n 0, 1) := by decide +kernel
theorem dX10_keepTuple_43 : decode cX10_keepTuple 43 = .ok (.getfield 29, 3) := by decide +kernel
theorem dX10_keepTuple_46 : decode cX10_keepTuple 46 = .ok (.iload_n 1, 1) := by decide +kernel
theorem dX10_keepTuple_47 : decode cX10_keepTuple 47 = .ok (.iaload, 1) := by decide +kernel
theorem dX10_keepTuple_48 : decode cX10_keepTuple 48 = .ok (.if_icmp .ge 12, 3) := by decide +kernel
theorem dX10_keepTuple_51 : decode cX10_keepTuple 51 = .ok (.aload_n 0, 1) := by decide +kernel
theorem dX10_keepTuple_52 : decode cX10_keepTuple 52 = .ok (.getfield 85, 3) := by decide +kernel
theorem dX10_keepTuple_55 : decode cX10_keepTuple 55 = .ok (.iload_n 2, 1) := by decide +kernel
theorem dX10_keepTuple_56 : decode cX10_keepTuple 56 = .ok (.laload, 1) := by decide +kernel
theorem dX10_keepTuple_57 : decode cX10_keepTuple 57 = .ok (.goto 4, 3) := by decide +kernel
theorem dX10_keepTuple_60 : decode cX10_keepTuple 60 = .ok (.lconst 0, 1) := by decide +kernel
theorem dX10_keepTuple_61 : decode cX10_keepTuple 61 = .ok (.lastore, 1) := by decide +kernel
theorem dX10_keepTuple_62 : decode cX10_keepTuple 62 = .ok (.iinc 2 1, 3) := by decide +kernel
theorem dX10_keepTuple_65 : decode cX10_keepTuple 65 = .ok (.goto (-63), 3) := by decide +kernel
theorem dX10_keepTuple_68 : decode cX10_keepTuple 68 = .ok (.return_, 1) := by decide +kernel
theorem dX10_findHole_0 : decode cX10_findHole 0 = .ok (.aload_n 0, 1) := by decide +kernel
theorem dX10_findHole_1 : decode cX10_findHole 1 = .ok (.iload_n 1, 1) := by decide +kernel
theorem dX10_findHole_2 : decode cX10_findHole 2 = .ok (.invokevirtual 262, 3) := by decide +kernel
theorem dX10_findHole_5 : decode cX10_findHole 5 = .ok (.istore_n 2, 1) := by decide +kernel
theorem dX10_findHole_6 : decode cX10_findHole 6 = .ok (.iload_n 2, 1) := by decide +kernel
theorem dX10_findHole_7 : decode cX10_findHole 7 = .ok (.ifCond .eq 21, 3) := by decide +kernel
theorem dX10_findHole_10 : decode cX10_findHole 10 = .ok (.aload_n 0, 1) := by decide +kernel
theorem dX10_findHole_11 : decode cX10_findHole 11 = .ok (.iload_n 1, 1) := by decide +kernel
theorem dX10_findHole_12 : decode cX10_findHole 12 = .ok (.iconst (-1), 1) := by decide +kernel
theorem dX10_findHole_13 : decode cX10_findHole 13 = .ok (.invokevirtual 206, 3) := by decide +kernel
theorem dX10_findHole_16 : decode cX10_findHole 16 = .ok (.ifCond .lt 12, 3) := by decide +kernel
theorem dX10_findHole_19 : decode cX10_findHole 19 = .ok (.aload_n 0, 1) := by decide +kernel
theorem dX10_findHole_20 : decode cX10_findHole 20 = .ok (.iload_n 1, 1) := by decide +kernel
theorem dX10_findHole_21 : decode cX10_findHole 21 = .ok (.invokevirtual 265, 3) := by decide +kernel
theorem dX10_findHole_24 : decode cX10_findHole 24 = .ok (.istore_n 2, 1) := by decide +kernel
theorem dX10_findHole_25 : decode cX10_findHole 25 = .ok (.goto (-19), 3) := by decide +kernel
theorem dX10_findHole_28 : decode cX10_findHole 28 = .ok (.aload_n 0, 1) := by decide +kernel
theorem dX10_findHole_29 : decode cX10_findHole 29 = .ok (.iload_n 1, 1) := by decide +kernel
theorem dX10_findHole_30 : decode cX10_findHole 30 = .ok (.invokevirtual 268, 3) := by decide +kernel
theorem dX10_findHole_33 : decode cX10_findHole 33 = .ok (.iload_n 2, 1) := by decide +kernel
theorem dX10_findHole_34 : decode cX10_findHole 34 = .ok (.ireturn, 1) := by decide +kernel
theorem dX10_covered_0 : decode cX10_covered 0 = .ok (.aload_n 0, 1) := by decide +kernel
theorem dX10_covered_1 : decode cX10_covered 1 = .ok (.iload_n 1, 1) := by decide +kernel
theorem dX10_covered_2 : decode cX10_covered 2 = .ok (.invokevirtual 134, 3) := by decide +kernel
theorem dX10_covered_5 : decode cX10_covered 5 = .ok (.ifCond .ne 6, 3) := by decide +kernel
theorem dX10_covered_8 : decode cX10_covered 8 = .ok (.bipush (-2), 2) := by decide +kernel
theorem dX10_covered_10 : decode cX10_covered 10 = .ok (.ireturn, 1) := by decide +kernel
theorem dX10_covered_11 : decode cX10_covered 11 = .ok (.aload_n 0, 1) := by decide +kernel
theorem dX10_covered_12 : decode cX10_covered 12 = .ok (.iload_n 1, 1) := by decide +kernel
theorem dX10_covered_13 : decode cX10_covered 13 = .ok (.invokevirtual 271, 3) := by decide +kernel
theorem dX10_covered_16 : decode cX10_covered 16 = .ok (.ifCond .eq 7, 3) := by decide +kernel
theorem dX10_covered_19 : decode cX10_covered 19 = .ok (.iconst 0, 1) := by decide +kernel
theorem dX10_covered_20 : decode cX10_covered 20 = .ok (.goto 4, 3) := by decide +kernel
theorem dX10_covered_23 : decode cX10_covered 23 = .ok (.iconst 1, 1) := by decide +kernel
theorem dX10_covered_24 : decode cX10_covered 24 = .ok (.ireturn, 1) := by decide +kernel
theorem dX10_hole_0 : decode cX10_hole 0 = .ok (.aload_n 0, 1) := by decide +kernel
theorem dX10_hole_1 : decode cX10_hole 1 = .ok (.iload_n 1, 1) := by decide +kernel
theorem dX10_hole_2 : decode cX10_hole 2 = .ok (.invokevirtual 134, 3) := by decide +kernel
theorem dX10_hole_5 : decode cX10_hole 5 = .ok (.ifCond .eq 29, 3) := by decide +kernel
theorem dX10_hole_8 : decode cX10_hole 8 = .ok (.iload_n 2, 1) := by decide +kernel
theorem dX10_hole_9 : decode cX10_hole 9 = .ok (.ifCond .lt 25, 3) := by decide +kernel
theorem dX10_hole_12 : decode cX10_hole 12 = .ok (.iload_n 2, 1) := by decide +kernel
theorem dX10_hole_13 : decode cX10_hole 13 = .ok (.iconst 4, 1) := by decide +kernel
theorem dX10_hole_14 : decode cX10_hole 14 = .ok (.if_icmp .ge 20, 3) := by decide +kernel
theorem dX10_hole_17 : decode cX10_hole 17 = .ok (.aload_n 0, 1) := by decide +kernel
theorem dX10_hole_18 : decode cX10_hole 18 = .ok (.iload_n 1, 1) := by decide +kernel
theorem dX10_hole_19 : decode cX10_hole 19 = .ok (.invokevirtual 271, 3) := by decide +kernel
theorem dX10_hole_22 : decode cX10_hole 22 = .ok (.ifCond .eq 12, 3) := by decide +kernel
theorem dX10_hole_25 : decode cX10_hole 25 = .ok (.aload_n 0, 1) := by decide +kernel
theorem dX10_hole_26 : decode cX10_hole 26 = .ok (.getfield 103, 3) := by decide +kernel
theorem dX10_hole_29 : decode cX10_hole 29 = .ok (.iload_n 2, 1) := by decide +kernel
theorem dX10_hole_30 : decode cX10_hole 30 = .ok (.laload, 1) := by decide +kernel
theorem dX10_hole_31 : decode cX10_hole 31 = .ok (.goto 6, 3) := by decide +kernel
theorem dX10_hole_34 : decode cX10_hole 34 = .ok (.ldc2_w 274, 3) := by decide +kernel
theorem dX10_hole_37 : decode cX10_hole 37 = .ok (.lreturn, 1) := by decide +kernel
theorem dX10_areInDoubt_0 : decode cX10_areInDoubt 0 = .ok (.aload_n 0, 1) := by decide +kernel
theorem dX10_areInDoubt_1 : decode cX10_areInDoubt 1 = .ok (.iload_n 2, 1) := by decide +kernel
theorem dX10_areInDoubt_2 : decode cX10_areInDoubt 2 = .ok (.invokevirtual 168, 3) := by decide +kernel
theorem dX10_areInDoubt_5 : decode cX10_areInDoubt 5 = .ok (.ifCond .eq 11, 3) := by decide +kernel
theorem dX10_areInDoubt_8 : decode cX10_areInDoubt 8 = .ok (.aload_n 0, 1) := by decide +kernel
theorem dX10_areInDoubt_9 : decode cX10_areInDoubt 9 = .ok (.iload_n 3, 1) := by decide +kernel
theorem dX10_areInDoubt_10 : decode cX10_areInDoubt 10 = .ok (.invokevirtual 168, 3) := by decide +kernel
theorem dX10_areInDoubt_13 : decode cX10_areInDoubt 13 = .ok (.ifCond .ne 5, 3) := by decide +kernel
theorem dX10_areInDoubt_16 : decode cX10_areInDoubt 16 = .ok (.iconst 0, 1) := by decide +kernel
theorem dX10_areInDoubt_17 : decode cX10_areInDoubt 17 = .ok (.ireturn, 1) := by decide +kernel
theorem dX10_areInDoubt_18 : decode cX10_areInDoubt 18 = .ok (.iconst 1, 1) := by decide +kernel
theorem dX10_areInDoubt_19 : decode cX10_areInDoubt 19 = .ok (.istore 4, 2) := by decide +kernel
theorem dX10_areInDoubt_21 : decode cX10_areInDoubt 21 = .ok (.iconst 0, 1) := by decide +kernel
theorem dX10_areInDoubt_22 : decode cX10_areInDoubt 22 = .ok (.istore 5, 2) := by decide +kernel
theorem dX10_areInDoubt_24 : decode cX10_areInDoubt 24 = .ok (.iload 5, 2) := by decide +kernel
theorem dX10_areInDoubt_26 : decode cX10_areInDoubt 26 = .ok (.aload_n 0, 1) := by decide +kernel
theorem dX10_areInDoubt_27 : decode cX10_areInDoubt 27 = .ok (.getfield 131, 3) := by decide +kernel
theorem dX10_areInDoubt_30 : decode cX10_areInDoubt 30 = .ok (.if_icmp .ge 52, 3) := by decide +kernel
theorem dX10_areInDoubt_33 : decode cX10_areInDoubt 33 = .ok (.iload 4, 2) := by decide +kernel
theorem dX10_areInDoubt_35 : decode cX10_areInDoubt 35 = .ok (.ifCond .eq 38, 3) := by decide +kernel
theorem dX10_areInDoubt_38 : decode cX10_areInDoubt 38 = .ok (.aload_n 0, 1) := by decide +kernel
theorem dX10_areInDoubt_39 : decode cX10_areInDoubt 39 = .ok (.iload 5, 2) := by decide +kernel
theorem dX10_areInDoubt_41 : decode cX10_areInDoubt 41 = .ok (.iload_n 1, 1) := by decide +kernel
theorem dX10_areInDoubt_42 : decode cX10_areInDoubt 42 = .ok (.iconst (-1), 1) := by decide +kernel
theorem dX10_areInDoubt_43 : decode cX10_areInDoubt 43 = .ok (.invokevirtual 171, 3) := by decide +kernel
theorem dX10_areInDoubt_46 : decode cX10_areInDoubt 46 = .ok (.ifCond .eq 23, 3) := by decide +kernel
theorem dX10_areInDoubt_49 : decode cX10_areInDoubt 49 = .ok (.aload_n 0, 1) := by decide +kernel
theorem dX10_areInDoubt_50 : decode cX10_areInDoubt 50 = .ok (.iload 5, 2) := by decide +kernel
theorem dX10_areInDoubt_52 : decode cX10_areInDoubt 52 = .ok (.iload_n 2, 1) := by decide +kernel
theorem dX10_areInDoubt_53 : decode cX10_areInDoubt 53 = .ok (.invokevirtual 159, 3) := by decide +kernel
theorem dX10_areInDoubt_56 : decode cX10_areInDoubt 56 = .ok (.ifCond .eq 13, 3) := by decide +kernel
theorem dX10_areInDoubt_59 : decode cX10_areInDoubt 59 = .ok (.aload_n 0, 1) := by decide +kernel
theorem dX10_areInDoubt_60 : decode cX10_areInDoubt 60 = .ok (.iload 5, 2) := by decide +kernel
theorem dX10_areInDoubt_62 : decode cX10_areInDoubt 62 = .ok (.iload_n 3, 1) := by decide +kernel
theorem dX10_areInDoubt_63 : decode cX10_areInDoubt 63 = .ok (.invokevirtual 159, 3) := by decide +kernel
theorem dX10_areInDoubt_66 : decode cX10_areInDoubt 66 = .ok (.ifCond .ne 7, 3) := by decide +kernel
theorem dX10_areInDoubt_69 : decode cX10_areInDoubt 69 = .ok (.iconst 1, 1) := by decide +kernel
theorem dX10_areInDoubt_70 : decode cX10_areInDoubt 70 = .ok (.goto 4, 3) := by decide +kernel
theorem dX10_areInDoubt_73 : decode cX10_areInDoubt 73 = .ok (.iconst 0, 1) := by decide +kernel
theorem dX10_areInDoubt_74 : decode cX10_areInDoubt 74 = .ok (.istore 4, 2) := by decide +kernel
theorem dX10_areInDoubt_76 : decode cX10_areInDoubt 76 = .ok (.iinc 5 1, 3) := by decide +kernel
theorem dX10_areInDoubt_79 : decode cX10_areInDoubt 79 = .ok (.goto (-55), 3) := by decide +kernel
theorem dX10_areInDoubt_82 : decode cX10_areInDoubt 82 = .ok (.iload 4, 2) := by decide +kernel
theorem dX10_areInDoubt_84 : decode cX10_areInDoubt 84 = .ok (.ireturn, 1) := by decide +kernel
theorem dX10_findDoubt_0 : decode cX10_findDoubt 0 = .ok (.aload_n 0, 1) := by decide +kernel
theorem dX10_findDoubt_1 : decode cX10_findDoubt 1 = .ok (.iload_n 2, 1) := by decide +kernel
theorem dX10_findDoubt_2 : decode cX10_findDoubt 2 = .ok (.iload_n 3, 1) := by decide +kernel
theorem dX10_findDoubt_3 : decode cX10_findDoubt 3 = .ok (.invokevirtual 159, 3) := by decide +kernel
theorem dX10_findDoubt_6 : decode cX10_findDoubt 6 = .ok (.ifCond .ne 12, 3) := by decide +kernel
theorem dX10_findDoubt_9 : decode cX10_findDoubt 9 = .ok (.aload_n 0, 1) := by decide +kernel
theorem dX10_findDoubt_10 : decode cX10_findDoubt 10 = .ok (.iload_n 3, 1) := by decide +kernel
theorem dX10_findDoubt_11 : decode cX10_findDoubt 11 = .ok (.iload_n 2, 1) := by decide +kernel
theorem dX10_findDoubt_12 : decode cX10_findDoubt 12 = .ok (.invokevirtual 159, 3) := by decide +kernel
theorem dX10_findDoubt_15 : decode cX10_findDoubt 15 = .ok (.ifCond .eq 5, 3) := by decide +kernel
theorem dX10_findDoubt_18 : decode cX10_findDoubt 18 = .ok (.iconst 0, 1) := by decide +kernel
theorem dX10_findDoubt_19 : decode cX10_findDoubt 19 = .ok (.ireturn, 1) := by decide +kernel
theorem dX10_findDoubt_20 : decode cX10_findDoubt 20 = .ok (.aload_n 0, 1) := by decide +kernel
theorem dX10_findDoubt_21 : decode cX10_findDoubt 21 = .ok (.iload_n 1, 1) := by decide +kernel
theorem dX10_findDoubt_22 : decode cX10_findDoubt 22 = .ok (.invokevirtual 262, 3) := by decide +kernel
theorem dX10_findDoubt_25 : decode cX10_findDoubt 25 = .ok (.istore 4, 2) := by decide +kernel
theorem dX10_findDoubt_27 : decode cX10_findDoubt 27 = .ok (.iconst 0, 1) := by decide +kernel
theorem dX10_findDoubt_28 : decode cX10_findDoubt 28 = .ok (.istore 5, 2) := by decide +kernel
theorem dX10_findDoubt_30 : decode cX10_findDoubt 30 = .ok (.iload 4, 2) := by decide +kernel
theorem dX10_findDoubt_32 : decode cX10_findDoubt 32 = .ok (.ifCond .eq 84, 3) := by decide +kernel
theorem dX10_findDoubt_35 : decode cX10_findDoubt 35 = .ok (.iload 5, 2) := by decide +kernel
theorem dX10_findDoubt_37 : decode cX10_findDoubt 37 = .ok (.ifCond .ne 79, 3) := by decide +kernel
theorem dX10_findDoubt_40 : decode cX10_findDoubt 40 = .ok (.aload_n 0, 1) := by decide +kernel
theorem dX10_findDoubt_41 : decode cX10_findDoubt 41 = .ok (.iload_n 2, 1) := by decide +kernel
theorem dX10_findDoubt_42 : decode cX10_findDoubt 42 = .ok (.iconst 0, 1) := by decide +kernel
theorem dX10_findDoubt_43 : decode cX10_findDoubt 43 = .ok (.invokevirtual 165, 3) := by decide +kernel
theorem dX10_findDoubt_46 : decode cX10_findDoubt 46 = .ok (.ifCond .eq 16, 3) := by decide +kernel
theorem dX10_findDoubt_49 : decode cX10_findDoubt 49 = .ok (.aload_n 0, 1) := by decide +kernel
theorem dX10_findDoubt_50 : decode cX10_findDoubt 50 = .ok (.iload_n 3, 1) := by decide +kernel
theorem dX10_findDoubt_51 : decode cX10_findDoubt 51 = .ok (.iconst 0, 1) := by decide +kernel
theorem dX10_findDoubt_52 : decode cX10_findDoubt 52 = .ok (.invokevirtual 165, 3) := by decide +kernel
theorem dX10_findDoubt_55 : decode cX10_findDoubt 55 = .ok (.ifCond .eq 7, 3) := by decide +kernel
theorem dX10_findDoubt_58 : decode cX10_findDoubt 58 = .ok (.iconst 1, 1) := by decide +kernel
theorem dX10_findDoubt_59 : decode cX10_findDoubt 59 = .ok (.goto 4, 3) := by decide +kernel
theorem dX10_findDoubt_62 : decode cX10_findDoubt 62 = .ok (.iconst 0, 1) := by decide +kernel
theorem dX10_findDoubt_63 : decode cX10_findDoubt 63 = .ok (.istore 6, 2) := by decide +kernel
theorem dX10_findDoubt_65 : decode cX10_findDoubt 65 = .ok (.iload 6, 2) := by decide +kernel
theorem dX10_findDoubt_67 : decode cX10_findDoubt 67 = .ok (.ifCond .eq 17, 3) := by decide +kernel
theorem dX10_findDoubt_70 : decode cX10_findDoubt 70 = .ok (.aload_n 0, 1) := by decide +kernel
theorem dX10_findDoubt_71 : decode cX10_findDoubt 71 = .ok (.iload_n 1, 1) := by decide +kernel
theorem dX10_findDoubt_72 : decode cX10_findDoubt 72 = .ok (.iload_n 2, 1) := by decide +kernel
theorem dX10_findDoubt_73 : decode cX10_findDoubt 73 = .ok (.iload_n 3, 1) := by decide +kernel
theorem dX10_findDoubt_74 : decode cX10_findDoubt 74 = .ok (.invokevirtual 276, 3) := by decide +kernel
theorem dX10_findDoubt_77 : decode cX10_findDoubt 77 = .ok (.ifCond .eq 7, 3) := by decide +kernel
theorem dX10_findDoubt_80 : decode cX10_findDoubt 80 = .ok (.iconst 1, 1) := by decide +kernel
theorem dX10_findDoubt_81 : decode cX10_findDoubt 81 = .ok (.goto 4, 3) := by decide +kernel
theorem dX10_findDoubt_84 : decode cX10_findDoubt 84 = .ok (.iconst 0, 1) := by decide +kernel
theorem dX10_findDoubt_85 : decode cX10_findDoubt 85 = .ok (.istore 5, 2) := by decide +kernel
theorem dX10_findDoubt_87 : decode cX10_findDoubt 87 = .ok (.iload 5, 2) := by decide +kernel
theorem dX10_findDoubt_89 : decode cX10_findDoubt 89 = .ok (.ifCond .ne 24, 3) := by decide +kernel
theorem dX10_findDoubt_92 : decode cX10_findDoubt 92 = .ok (.iload 6, 2) := by decide +kernel
theorem dX10_findDoubt_94 : decode cX10_findDoubt 94 = .ok (.ifCond .eq 11, 3) := by decide +kernel
theorem dX10_findDoubt_97 : decode cX10_findDoubt 97 = .ok (.aload_n 0, 1) := by decide +kernel
theorem dX10_findDoubt_98 : decode cX10_findDoubt 98 = .ok (.iload_n 1, 1) := by decide +kernel
theorem dX10_findDoubt_99 : decode cX10_findDoubt 99 = .ok (.invokevirtual 265, 3) := by decide +kernel
theorem dX10_findDoubt_102 : decode cX10_findDoubt 102 = .ok (.goto 9, 3) := by decide +kernel
theorem dX10_findDoubt_105 : decode cX10_findDoubt 105 = .ok (.aload_n 0, 1) := by decide +kernel
theorem dX10_findDoubt_106 : decode cX10_findDoubt 106 = .ok (.iload_n 1, 1) := by decide +kernel
theorem dX10_findDoubt_107 : decode cX10_findDoubt 107 = .ok (.iconst 0, 1) := by decide +kernel
theorem dX10_findDoubt_108 : decode cX10_findDoubt 108 = .ok (.invokevirtual 259, 3) := by decide +kernel
theorem dX10_findDoubt_111 : decode cX10_findDoubt 111 = .ok (.istore 4, 2) := by decide +kernel
theorem dX10_findDoubt_113 : decode cX10_findDoubt 113 = .ok (.goto (-83), 3) := by decide +kernel
theorem dX10_findDoubt_116 : decode cX10_findDoubt 116 = .ok (.aload_n 0, 1) := by decide +kernel
theorem dX10_findDoubt_117 : decode cX10_findDoubt 117 = .ok (.iload_n 1, 1) := by decide +kernel
theorem dX10_findDoubt_118 : decode cX10_findDoubt 118 = .ok (.invokevirtual 268, 3) := by decide +kernel
theorem dX10_findDoubt_121 : decode cX10_findDoubt 121 = .ok (.iload 4, 2) := by decide +kernel
theorem dX10_findDoubt_123 : decode cX10_findDoubt 123 = .ok (.ireturn, 1) := by decide +kernel
theorem dX10_doubt_0 : decode cX10_doubt 0 = .ok (.aload_n 0, 1) := by decide +kernel
theorem dX10_doubt_1 : decode cX10_doubt 1 = .ok (.iload_n 1, 1) := by decide +kernel
theorem dX10_doubt_2 : decode cX10_doubt 2 = .ok (.invokevirtual 134, 3) := by decide +kernel
theorem dX10_doubt_5 : decode cX10_doubt 5 = .ok (.ifCond .eq 16, 3) := by decide +kernel
theorem dX10_doubt_8 : decode cX10_doubt 8 = .ok (.iload_n 2, 1) := by decide +kernel
theorem dX10_doubt_9 : decode cX10_doubt 9 = .ok (.ifCond .lt 12, 3) := by decide +kernel
theorem dX10_doubt_12 : decode cX10_doubt 12 = .ok (.iload_n 3, 1) := by decide +kernel
theorem dX10_doubt_13 : decode cX10_doubt 13 = .ok (.ifCond .lt 8, 3) := by decide +kernel
theorem dX10_doubt_16 : decode cX10_doubt 16 = .ok (.iload_n 3, 1) := by decide +kernel
theorem dX10_doubt_17 : decode cX10_doubt 17 = .ok (.iconst 5, 1) := by decide +kernel
theorem dX10_doubt_18 : decode cX10_doubt 18 = .ok (.if_icmp .le 7, 3) := by decide +kernel
theorem dX10_doubt_21 : decode cX10_doubt 21 = .ok (.ldc2_w 274, 3) := by decide +kernel
theorem dX10_doubt_24 : decode cX10_doubt 24 = .ok (.lreturn, 1) := by decide +kernel
theorem dX10_doubt_25 : decode cX10_doubt 25 = .ok (.iconst 0, 1) := by decide +kernel
theorem dX10_doubt_26 : decode cX10_doubt 26 = .ok (.istore 4, 2) := by decide +kernel
theorem dX10_doubt_28 : decode cX10_doubt 28 = .ok (.iconst 0, 1) := by decide +kernel
theorem dX10_doubt_29 : decode cX10_doubt 29 = .ok (.istore 5, 2) := by decide +kernel
theorem dX10_doubt_31 : decode cX10_doubt 31 = .ok (.iload 5, 2) := by decide +kernel
theorem dX10_doubt_33 : decode cX10_doubt 33 = .ok (.aload_n 0, 1) := by decide +kernel
theorem dX10_doubt_34 : decode cX10_doubt 34 = .ok (.getfield 131, 3) := by decide +kernel
theorem dX10_doubt_37 : decode cX10_doubt 37 = .ok (.if_icmp .ge 133, 3) := by decide +kernel
theorem dX10_doubt_40 : decode cX10_doubt 40 = .ok (.iload 5, 2) := by decide +kernel
theorem dX10_doubt_42 : decode cX10_doubt 42 = .ok (.iconst 1, 1) := by decide +kernel
theorem dX10_doubt_43 : decode cX10_doubt 43 = .ok (.iadd, 1) := by decide +kernel
theorem dX10_doubt_44 : decode cX10_doubt 44 = .ok (.istore 6, 2) := by decide +kernel
theorem dX10_doubt_46 : decode cX10_doubt 46 = .ok (.iload 6, 2) := by decide +kernel
theorem dX10_doubt_48 : decode cX10_doubt 48 = .ok (.aload_n 0, 1) := by decide +kernel
theorem dX10_doubt_49 : decode cX10_doubt 49 = .ok (.getfield 131, 3) := by decide +kernel
theorem dX10_doubt_52 : decode cX10_doubt 52 = .ok (.if_icmp .ge 112, 3) := by decide +kernel
theorem dX10_doubt_55 : decode cX10_doubt 55 = .ok (.aload_n 0, 1) := by decide +kernel
theorem dX10_doubt_56 : decode cX10_doubt 56 = .ok (.iload 5, 2) := by decide +kernel
theorem dX10_doubt_58 : decode cX10_doubt 58 = .ok (.iload_n 1, 1) := by decide +kernel
theorem dX10_doubt_59 : decode cX10_doubt 59 = .ok (.invokevirtual 145, 3) := by decide +kernel
theorem dX10_doubt_62 : decode cX10_doubt 62 = .ok (.ifCond .eq 37, 3) := by decide +kernel
theorem dX10_doubt_65 : decode cX10_doubt 65 = .ok (.aload_n 0, 1) := by decide +kernel
theorem dX10_doubt_66 : decode cX10_doubt 66 = .ok (.iload 6, 2) := by decide +kernel
theorem dX10_doubt_68 : decode cX10_doubt 68 = .ok (.iload_n 1, 1) := by decide +kernel
theorem dX10_doubt_69 : decode cX10_doubt 69 = .ok (.invokevirtual 145, 3) := by decide +kernel
theorem dX10_doubt_72 : decode cX10_doubt 72 = .ok (.ifCond .eq 27, 3) := by decide +kernel
theorem dX10_doubt_75 : decode cX10_doubt 75 = .ok (.aload_n 0, 1) := by decide +kernel
theorem dX10_doubt_76 : decode cX10_doubt 76 = .ok (.getfield 54, 3) := by decide +kernel
theorem dX10_doubt_79 : decode cX10_doubt 79 = .ok (.iload 5, 2) := by decide +kernel
theorem dX10_doubt_81 : decode cX10_doubt 81 = .ok (.baload, 1) := by decide +kernel
theorem dX10_doubt_82 : decode cX10_doubt 82 = .ok (.ifCond .ne 17, 3) := by decide +kernel
theorem dX10_doubt_85 : decode cX10_doubt 85 = .ok (.aload_n 0, 1) := by decide +kernel
theorem dX10_doubt_86 : decode cX10_doubt 86 = .ok (.getfield 54, 3) := by decide +kernel
theorem dX10_doubt_89 : decode cX10_doubt 89 = .ok (.iload 6, 2) := by decide +kernel
theorem dX10_doubt_91 : decode cX10_doubt 91 = .ok (.baload, 1) := by decide +kernel
theorem dX10_doubt_92 : decode cX10_doubt 92 = .ok (.ifCond .ne 7, 3) := by decide +kernel
theorem dX10_doubt_95 : decode cX10_doubt 95 = .ok (.iconst 1, 1) := by decide +kernel
theorem dX10_doubt_96 : decode cX10_doubt 96 = .ok (.goto 4, 3) := by decide +kernel
theorem dX10_doubt_99 : decode cX10_doubt 99 = .ok (.iconst 0, 1) := by decide +kernel
theorem dX10_doubt_100 : decode cX10_doubt 100 = .ok (.istore 7, 2) := by decide +kernel
theorem dX10_doubt_102 : decode cX10_doubt 102 = .ok (.iload 7, 2) := by decide +kernel
theorem dX10_doubt_104 : decode cX10_doubt 104 = .ok (.ifCond .eq 54, 3) := by decide +kernel
theorem dX10_doubt_107 : decode cX10_doubt 107 = .ok (.aload_n 0, 1) := by decide +kernel
theorem dX10_doubt_108 : decode cX10_doubt 108 = .ok (.iload_n 1, 1) := by decide +kernel
theorem dX10_doubt_109 : decode cX10_doubt 109 = .ok (.iload 5, 2) := by decide +kernel
theorem dX10_doubt_111 : decode cX10_doubt 111 = .ok (.iload 6, 2) := by decide +kernel
theorem dX10_doubt_113 : decode cX10_doubt 113 = .ok (.invokevirtual 279, 3) := by decide +kernel
theorem dX10_doubt_116 : decode cX10_doubt 116 = .ok (.ifCond .eq 42, 3) := by decide +kernel
theorem dX10_doubt_119 : decode cX10_doubt 119 = .ok (.iload 4, 2) := by decide +kernel
theorem dX10_doubt_121 : decode cX10_doubt 121 = .ok (.iload_n 2, 1) := by decide +kernel
theorem dX10_doubt_122 : decode cX10_doubt 122 = .ok (.if_icmp .ne 33, 3) := by decide +kernel
theorem dX10_doubt_125 : decode cX10_doubt 125 = .ok (.iload_n 3, 1) := by decide +kernel
theorem dX10_doubt_126 : decode cX10_doubt 126 = .ok (.ifCond .ne 9, 3) := by decide +kernel
theorem dX10_doubt_129 : decode cX10_doubt 129 = .ok (.iload 5, 2) := by decide +kernel
theorem dX10_doubt_131 : decode cX10_doubt 131 = .ok (.i2l, 1) := by decide +kernel
theorem dX10_doubt_132 : decode cX10_doubt 132 = .ok (.goto 22, 3) := by decide +kernel
theorem dX10_doubt_135 : decode cX10_doubt 135 = .ok (.iload_n 3, 1) := by decide +kernel
theorem dX10_doubt_136 : decode cX10_doubt 136 = .ok (.iconst 1, 1) := by decide +kernel
theorem dX10_doubt_137 : decode cX10_doubt 137 = .ok (.if_icmp .ne 9, 3) := by decide +kernel
theorem dX10_doubt_140 : decode cX10_doubt 140 = .ok (.iload 6, 2) := by decide +kernel
theorem dX10_doubt_142 : decode cX10_doubt 142 = .ok (.i2l, 1) := by decide +kernel
theorem dX10_doubt_143 : decode cX10_doubt 143 = .ok (.goto 11, 3) := by decide +kernel
theorem dX10_doubt_146 : decode cX10_doubt 146 = .ok (.aload_n 0, 1) := by decide +kernel
theorem dX10_doubt_147 : decode cX10_doubt 147 = .ok (.getfield 103, 3) := by decide +kernel
theorem dX10_doubt_150 : decode cX10_doubt 150 = .ok (.iload_n 3, 1) := by decide +kernel
theorem dX10_doubt_151 : decode cX10_doubt 151 = .ok (.iconst 2, 1) := by decide +kernel
theorem dX10_doubt_152 : decode cX10_doubt 152 = .ok (.isub, 1) := by decide +kernel
theorem dX10_doubt_153 : decode cX10_doubt 153 = .ok (.laload, 1) := by decide +kernel
theorem dX10_doubt_154 : decode cX10_doubt 154 = .ok (.lreturn, 1) := by decide +kernel
theorem dX10_doubt_155 : decode cX10_doubt 155 = .ok (.iinc 4 1, 3) := by decide +kernel
theorem dX10_doubt_158 : decode cX10_doubt 158 = .ok (.iinc 6 1, 3) := by decide +kernel
theorem dX10_doubt_161 : decode cX10_doubt 161 = .ok (.goto (-115), 3) := by decide +kernel
theorem dX10_doubt_164 : decode cX10_doubt 164 = .ok (.iinc 5 1, 3) := by decide +kernel
theorem dX10_doubt_167 : decode cX10_doubt 167 = .ok (.goto (-136), 3) := by decide +kernel
theorem dX10_doubt_170 : decode cX10_doubt 170 = .ok (.ldc2_w 274, 3) := by decide +kernel
theorem dX10_doubt_173 : decode cX10_doubt 173 = .ok (.lreturn, 1) := by decide +kernel
theorem dJ9_floorMod_7cf53_0 : decode cJ9_floorMod_7cf53 0 = .ok (.iload_n 0, 1) := by decide +kernel
theorem dJ9_floorMod_7cf53_1 : decode cJ9_floorMod_7cf53 1 = .ok (.iload_n 1, 1) := by decide +kernel
theorem dJ9_floorMod_7cf53_2 : decode cJ9_floorMod_7cf53 2 = .ok (.irem, 1) := by decide +kernel
theorem dJ9_floorMod_7cf53_3 : decode cJ9_floorMod_7cf53 3 = .ok (.istore_n 2, 1) := by decide +kernel
theorem dJ9_floorMod_7cf53_4 : decode cJ9_floorMod_7cf53 4 = .ok (.iload_n 0, 1) := by decide +kernel
theorem dJ9_floorMod_7cf53_5 : decode cJ9_floorMod_7cf53 5 = .ok (.iload_n 1, 1) := by decide +kernel
theorem dJ9_floorMod_7cf53_6 : decode cJ9_floorMod_7cf53 6 = .ok (.ixor, 1) := by decide +kernel
theorem dJ9_floorMod_7cf53_7 : decode cJ9_floorMod_7cf53 7 = .ok (.ifCond .ge 11, 3) := by decide +kernel
theorem dJ9_floorMod_7cf53_10 : decode cJ9_floorMod_7cf53 10 = .ok (.iload_n 2, 1) := by decide +kernel
theorem dJ9_floorMod_7cf53_11 : decode cJ9_floorMod_7cf53 11 = .ok (.ifCond .eq 7, 3) := by decide +kernel
theorem dJ9_floorMod_7cf53_14 : decode cJ9_floorMod_7cf53 14 = .ok (.iload_n 2, 1) := by decide +kernel
theorem dJ9_floorMod_7cf53_15 : decode cJ9_floorMod_7cf53 15 = .ok (.iload_n 1, 1) := by decide +kernel
theorem dJ9_floorMod_7cf53_16 : decode cJ9_floorMod_7cf53 16 = .ok (.iadd, 1) := by decide +kernel
theorem dJ9_floorMod_7cf53_17 : decode cJ9_floorMod_7cf53 17 = .ok (.ireturn, 1) := by decide +kernel
theorem dJ9_floorMod_7cf53_18 : decode cJ9_floorMod_7cf53 18 = .ok (.iload_n 2, 1) := by decide +kernel
theorem dJ9_floorMod_7cf53_19 : decode cJ9_floorMod_7cf53 19 = .ok (.ireturn, 1) := by decide +kernel
theorem dJ9_min_f86c9_0 : decode cJ9_min_f86c9 0 = .ok (.lload_n 0, 1) := by decide +kernel
theorem dJ9_min_f86c9_1 : decode cJ9_min_f86c9 1 = .ok (.lload_n 2, 1) := by decide +kernel
theorem dJ9_min_f86c9_2 : decode cJ9_min_f86c9 2 = .ok (.lcmp, 1) := by decide +kernel
theorem dJ9_min_f86c9_3 : decode cJ9_min_f86c9 3 = .ok (.ifCond .gt 7, 3) := by decide +kernel
theorem dJ9_min_f86c9_6 : decode cJ9_min_f86c9 6 = .ok (.lload_n 0, 1) := by decide +kernel
theorem dJ9_min_f86c9_7 : decode cJ9_min_f86c9 7 = .ok (.goto 4, 3) := by decide +kernel
theorem dJ9_min_f86c9_10 : decode cJ9_min_f86c9 10 = .ok (.lload_n 2, 1) := by decide +kernel
theorem dJ9_min_f86c9_11 : decode cJ9_min_f86c9 11 = .ok (.lreturn, 1) := by decide +kernel
theorem dJ7_fill_53178_0 : decode cJ7_fill_53178 0 = .ok (.iconst 0, 1) := by decide +kernel
theorem dJ7_fill_53178_1 : decode cJ7_fill_53178 1 = .ok (.istore_n 2, 1) := by decide +kernel
theorem dJ7_fill_53178_2 : decode cJ7_fill_53178 2 = .ok (.aload_n 0, 1) := by decide +kernel
theorem dJ7_fill_53178_3 : decode cJ7_fill_53178 3 = .ok (.arraylength, 1) := by decide +kernel
theorem dJ7_fill_53178_4 : decode cJ7_fill_53178 4 = .ok (.istore_n 3, 1) := by decide +kernel
theorem dJ7_fill_53178_5 : decode cJ7_fill_53178 5 = .ok (.iload_n 2, 1) := by decide +kernel
theorem dJ7_fill_53178_6 : decode cJ7_fill_53178 6 = .ok (.iload_n 3, 1) := by decide +kernel
theorem dJ7_fill_53178_7 : decode cJ7_fill_53178 7 = .ok (.if_icmp .ge 13, 3) := by decide +kernel
theorem dJ7_fill_53178_10 : decode cJ7_fill_53178 10 = .ok (.aload_n 0, 1) := by decide +kernel
theorem dJ7_fill_53178_11 : decode cJ7_fill_53178 11 = .ok (.iload_n 2, 1) := by decide +kernel
theorem dJ7_fill_53178_12 : decode cJ7_fill_53178 12 = .ok (.iload_n 1, 1) := by decide +kernel
theorem dJ7_fill_53178_13 : decode cJ7_fill_53178 13 = .ok (.iastore, 1) := by decide +kernel
theorem dJ7_fill_53178_14 : decode cJ7_fill_53178 14 = .ok (.iinc 2 1, 3) := by decide +kernel
theorem dJ7_fill_53178_17 : decode cJ7_fill_53178 17 = .ok (.goto (-12), 3) := by decide +kernel
theorem dJ7_fill_53178_20 : decode cJ7_fill_53178 20 = .ok (.return_, 1) := by decide +kernel
