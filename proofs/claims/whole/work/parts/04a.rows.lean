theorem dX10_init_0 : decode cX10_init 0 = .ok (.aload_n 0, 1) := by decide +kernel
theorem dX10_init_1 : decode cX10_init 1 = .ok (.invokespecial 1, 3) := by decide +kernel
theorem dX10_init_4 : decode cX10_init 4 = .ok (.aload_n 0, 1) := by decide +kernel
theorem dX10_init_5 : decode cX10_init 5 = .ok (.bipush 12, 2) := by decide +kernel
theorem dX10_init_7 : decode cX10_init 7 = .ok (.newarray .int, 2) := by decide +kernel
theorem dX10_init_9 : decode cX10_init 9 = .ok (.putfield 7, 3) := by decide +kernel
theorem dX10_init_12 : decode cX10_init 12 = .ok (.aload_n 0, 1) := by decide +kernel
theorem dX10_init_13 : decode cX10_init 13 = .ok (.sipush 256, 3) := by decide +kernel
theorem dX10_init_16 : decode cX10_init 16 = .ok (.newarray .boolean, 2) := by decide +kernel
theorem dX10_init_18 : decode cX10_init 18 = .ok (.putfield 13, 3) := by decide +kernel
theorem dX10_init_21 : decode cX10_init 21 = .ok (.aload_n 0, 1) := by decide +kernel
theorem dX10_init_22 : decode cX10_init 22 = .ok (.sipush 256, 3) := by decide +kernel
theorem dX10_init_25 : decode cX10_init 25 = .ok (.newarray .boolean, 2) := by decide +kernel
theorem dX10_init_27 : decode cX10_init 27 = .ok (.putfield 17, 3) := by decide +kernel
theorem dX10_init_30 : decode cX10_init 30 = .ok (.aload_n 0, 1) := by decide +kernel
theorem dX10_init_31 : decode cX10_init 31 = .ok (.bipush 12, 2) := by decide +kernel
theorem dX10_init_33 : decode cX10_init 33 = .ok (.newarray .boolean, 2) := by decide +kernel
theorem dX10_init_35 : decode cX10_init 35 = .ok (.putfield 20, 3) := by decide +kernel
theorem dX10_init_38 : decode cX10_init 38 = .ok (.aload_n 0, 1) := by decide +kernel
theorem dX10_init_39 : decode cX10_init 39 = .ok (.sipush 300, 3) := by decide +kernel
theorem dX10_init_42 : decode cX10_init 42 = .ok (.newarray .int, 2) := by decide +kernel
theorem dX10_init_44 : decode cX10_init 44 = .ok (.putfield 23, 3) := by decide +kernel
theorem dX10_init_47 : decode cX10_init 47 = .ok (.aload_n 0, 1) := by decide +kernel
theorem dX10_init_48 : decode cX10_init 48 = .ok (.sipush 300, 3) := by decide +kernel
theorem dX10_init_51 : decode cX10_init 51 = .ok (.newarray .int, 2) := by decide +kernel
theorem dX10_init_53 : decode cX10_init 53 = .ok (.putfield 26, 3) := by decide +kernel
theorem dX10_init_56 : decode cX10_init 56 = .ok (.aload_n 0, 1) := by decide +kernel
theorem dX10_init_57 : decode cX10_init 57 = .ok (.iconst 4, 1) := by decide +kernel
theorem dX10_init_58 : decode cX10_init 58 = .ok (.newarray .int, 2) := by decide +kernel
theorem dX10_init_60 : decode cX10_init 60 = .ok (.putfield 29, 3) := by decide +kernel
theorem dX10_init_63 : decode cX10_init 63 = .ok (.aload_n 0, 1) := by decide +kernel
theorem dX10_init_64 : decode cX10_init 64 = .ok (.iconst 4, 1) := by decide +kernel
theorem dX10_init_65 : decode cX10_init 65 = .ok (.newarray .boolean, 2) := by decide +kernel
theorem dX10_init_67 : decode cX10_init 67 = .ok (.putfield 32, 3) := by decide +kernel
theorem dX10_init_70 : decode cX10_init 70 = .ok (.aload_n 0, 1) := by decide +kernel
theorem dX10_init_71 : decode cX10_init 71 = .ok (.iconst 4, 1) := by decide +kernel
theorem dX10_init_72 : decode cX10_init 72 = .ok (.newarray .int, 2) := by decide +kernel
theorem dX10_init_74 : decode cX10_init 74 = .ok (.putfield 35, 3) := by decide +kernel
theorem dX10_init_77 : decode cX10_init 77 = .ok (.aload_n 0, 1) := by decide +kernel
theorem dX10_init_78 : decode cX10_init 78 = .ok (.sipush 256, 3) := by decide +kernel
theorem dX10_init_81 : decode cX10_init 81 = .ok (.newarray .long, 2) := by decide +kernel
theorem dX10_init_83 : decode cX10_init 83 = .ok (.putfield 38, 3) := by decide +kernel
theorem dX10_init_86 : decode cX10_init 86 = .ok (.aload_n 0, 1) := by decide +kernel
theorem dX10_init_87 : decode cX10_init 87 = .ok (.iconst 4, 1) := by decide +kernel
theorem dX10_init_88 : decode cX10_init 88 = .ok (.newarray .int, 2) := by decide +kernel
theorem dX10_init_90 : decode cX10_init 90 = .ok (.putfield 42, 3) := by decide +kernel
theorem dX10_init_93 : decode cX10_init 93 = .ok (.aload_n 0, 1) := by decide +kernel
theorem dX10_init_94 : decode cX10_init 94 = .ok (.bipush 40, 2) := by decide +kernel
theorem dX10_init_96 : decode cX10_init 96 = .ok (.newarray .int, 2) := by decide +kernel
theorem dX10_init_98 : decode cX10_init 98 = .ok (.putfield 45, 3) := by decide +kernel
theorem dX10_init_101 : decode cX10_init 101 = .ok (.aload_n 0, 1) := by decide +kernel
theorem dX10_init_102 : decode cX10_init 102 = .ok (.bipush 40, 2) := by decide +kernel
theorem dX10_init_104 : decode cX10_init 104 = .ok (.newarray .int, 2) := by decide +kernel
theorem dX10_init_106 : decode cX10_init 106 = .ok (.putfield 48, 3) := by decide +kernel
theorem dX10_init_109 : decode cX10_init 109 = .ok (.aload_n 0, 1) := by decide +kernel
theorem dX10_init_110 : decode cX10_init 110 = .ok (.bipush 40, 2) := by decide +kernel
theorem dX10_init_112 : decode cX10_init 112 = .ok (.newarray .int, 2) := by decide +kernel
theorem dX10_init_114 : decode cX10_init 114 = .ok (.putfield 51, 3) := by decide +kernel
theorem dX10_init_117 : decode cX10_init 117 = .ok (.aload_n 0, 1) := by decide +kernel
theorem dX10_init_118 : decode cX10_init 118 = .ok (.bipush 40, 2) := by decide +kernel
theorem dX10_init_120 : decode cX10_init 120 = .ok (.newarray .boolean, 2) := by decide +kernel
theorem dX10_init_122 : decode cX10_init 122 = .ok (.putfield 54, 3) := by decide +kernel
theorem dX10_init_125 : decode cX10_init 125 = .ok (.aload_n 0, 1) := by decide +kernel
theorem dX10_init_126 : decode cX10_init 126 = .ok (.bipush 40, 2) := by decide +kernel
theorem dX10_init_128 : decode cX10_init 128 = .ok (.newarray .int, 2) := by decide +kernel
theorem dX10_init_130 : decode cX10_init 130 = .ok (.putfield 57, 3) := by decide +kernel
theorem dX10_init_133 : decode cX10_init 133 = .ok (.aload_n 0, 1) := by decide +kernel
theorem dX10_init_134 : decode cX10_init 134 = .ok (.bipush 80, 2) := by decide +kernel
theorem dX10_init_136 : decode cX10_init 136 = .ok (.newarray .int, 2) := by decide +kernel
theorem dX10_init_138 : decode cX10_init 138 = .ok (.putfield 60, 3) := by decide +kernel
theorem dX10_init_141 : decode cX10_init 141 = .ok (.aload_n 0, 1) := by decide +kernel
theorem dX10_init_142 : decode cX10_init 142 = .ok (.bipush 80, 2) := by decide +kernel
theorem dX10_init_144 : decode cX10_init 144 = .ok (.newarray .int, 2) := by decide +kernel
theorem dX10_init_146 : decode cX10_init 146 = .ok (.putfield 63, 3) := by decide +kernel
theorem dX10_init_149 : decode cX10_init 149 = .ok (.aload_n 0, 1) := by decide +kernel
theorem dX10_init_150 : decode cX10_init 150 = .ok (.bipush 80, 2) := by decide +kernel
theorem dX10_init_152 : decode cX10_init 152 = .ok (.newarray .int, 2) := by decide +kernel
theorem dX10_init_154 : decode cX10_init 154 = .ok (.putfield 66, 3) := by decide +kernel
theorem dX10_init_157 : decode cX10_init 157 = .ok (.aload_n 0, 1) := by decide +kernel
theorem dX10_init_158 : decode cX10_init 158 = .ok (.bipush 8, 2) := by decide +kernel
theorem dX10_init_160 : decode cX10_init 160 = .ok (.newarray .int, 2) := by decide +kernel
theorem dX10_init_162 : decode cX10_init 162 = .ok (.putfield 69, 3) := by decide +kernel
theorem dX10_init_165 : decode cX10_init 165 = .ok (.aload_n 0, 1) := by decide +kernel
theorem dX10_init_166 : decode cX10_init 166 = .ok (.iconst 2, 1) := by decide +kernel
theorem dX10_init_167 : decode cX10_init 167 = .ok (.newarray .int, 2) := by decide +kernel
theorem dX10_init_169 : decode cX10_init 169 = .ok (.putfield 72, 3) := by decide +kernel
theorem dX10_init_172 : decode cX10_init 172 = .ok (.aload_n 0, 1) := by decide +kernel
theorem dX10_init_173 : decode cX10_init 173 = .ok (.iconst (-1), 1) := by decide +kernel
theorem dX10_init_174 : decode cX10_init 174 = .ok (.putfield 75, 3) := by decide +kernel
theorem dX10_init_177 : decode cX10_init 177 = .ok (.aload_n 0, 1) := by decide +kernel
theorem dX10_init_178 : decode cX10_init 178 = .ok (.sipush 1000, 3) := by decide +kernel
theorem dX10_init_181 : decode cX10_init 181 = .ok (.newarray .int, 2) := by decide +kernel
theorem dX10_init_183 : decode cX10_init 183 = .ok (.putfield 79, 3) := by decide +kernel
theorem dX10_init_186 : decode cX10_init 186 = .ok (.aload_n 0, 1) := by decide +kernel
theorem dX10_init_187 : decode cX10_init 187 = .ok (.iconst 2, 1) := by decide +kernel
theorem dX10_init_188 : decode cX10_init 188 = .ok (.newarray .int, 2) := by decide +kernel
theorem dX10_init_190 : decode cX10_init 190 = .ok (.putfield 82, 3) := by decide +kernel
theorem dX10_init_193 : decode cX10_init 193 = .ok (.aload_n 0, 1) := by decide +kernel
theorem dX10_init_194 : decode cX10_init 194 = .ok (.iconst 2, 1) := by decide +kernel
theorem dX10_init_195 : decode cX10_init 195 = .ok (.newarray .long, 2) := by decide +kernel
theorem dX10_init_197 : decode cX10_init 197 = .ok (.putfield 85, 3) := by decide +kernel
theorem dX10_init_200 : decode cX10_init 200 = .ok (.aload_n 0, 1) := by decide +kernel
theorem dX10_init_201 : decode cX10_init 201 = .ok (.iconst (-1), 1) := by decide +kernel
theorem dX10_init_202 : decode cX10_init 202 = .ok (.putfield 88, 3) := by decide +kernel
theorem dX10_init_205 : decode cX10_init 205 = .ok (.aload_n 0, 1) := by decide +kernel
theorem dX10_init_206 : decode cX10_init 206 = .ok (.bipush 40, 2) := by decide +kernel
theorem dX10_init_208 : decode cX10_init 208 = .ok (.newarray .boolean, 2) := by decide +kernel
theorem dX10_init_210 : decode cX10_init 210 = .ok (.putfield 91, 3) := by decide +kernel
theorem dX10_init_213 : decode cX10_init 213 = .ok (.aload_n 0, 1) := by decide +kernel
theorem dX10_init_214 : decode cX10_init 214 = .ok (.bipush 68, 2) := by decide +kernel
theorem dX10_init_216 : decode cX10_init 216 = .ok (.newarray .long, 2) := by decide +kernel
theorem dX10_init_218 : decode cX10_init 218 = .ok (.putfield 94, 3) := by decide +kernel
theorem dX10_init_221 : decode cX10_init 221 = .ok (.aload_n 0, 1) := by decide +kernel
theorem dX10_init_222 : decode cX10_init 222 = .ok (.iconst 2, 1) := by decide +kernel
theorem dX10_init_223 : decode cX10_init 223 = .ok (.newarray .int, 2) := by decide +kernel
theorem dX10_init_225 : decode cX10_init 225 = .ok (.putfield 97, 3) := by decide +kernel
theorem dX10_init_228 : decode cX10_init 228 = .ok (.aload_n 0, 1) := by decide +kernel
theorem dX10_init_229 : decode cX10_init 229 = .ok (.iconst 2, 1) := by decide +kernel
theorem dX10_init_230 : decode cX10_init 230 = .ok (.newarray .int, 2) := by decide +kernel
theorem dX10_init_232 : decode cX10_init 232 = .ok (.putfield 100, 3) := by decide +kernel
theorem dX10_init_235 : decode cX10_init 235 = .ok (.aload_n 0, 1) := by decide +kernel
theorem dX10_init_236 : decode cX10_init 236 = .ok (.iconst 4, 1) := by decide +kernel
theorem dX10_init_237 : decode cX10_init 237 = .ok (.newarray .long, 2) := by decide +kernel
theorem dX10_init_239 : decode cX10_init 239 = .ok (.putfield 103, 3) := by decide +kernel
theorem dX10_init_242 : decode cX10_init 242 = .ok (.iconst 0, 1) := by decide +kernel
theorem dX10_init_243 : decode cX10_init 243 = .ok (.istore_n 1, 1) := by decide +kernel
theorem dX10_init_244 : decode cX10_init 244 = .ok (.iload_n 1, 1) := by decide +kernel
theorem dX10_init_245 : decode cX10_init 245 = .ok (.bipush 12, 2) := by decide +kernel
theorem dX10_init_247 : decode cX10_init 247 = .ok (.if_icmp .ge 16, 3) := by decide +kernel
theorem dX10_init_250 : decode cX10_init 250 = .ok (.aload_n 0, 1) := by decide +kernel
theorem dX10_init_251 : decode cX10_init 251 = .ok (.getfield 7, 3) := by decide +kernel
theorem dX10_init_254 : decode cX10_init 254 = .ok (.iload_n 1, 1) := by decide +kernel
theorem dX10_init_255 : decode cX10_init 255 = .ok (.iconst (-1), 1) := by decide +kernel
theorem dX10_init_256 : decode cX10_init 256 = .ok (.iastore, 1) := by decide +kernel
theorem dX10_init_257 : decode cX10_init 257 = .ok (.iinc 1 1, 3) := by decide +kernel
theorem dX10_init_260 : decode cX10_init 260 = .ok (.goto (-16), 3) := by decide +kernel
theorem dX10_init_263 : decode cX10_init 263 = .ok (.aload_n 0, 1) := by decide +kernel
theorem dX10_init_264 : decode cX10_init 264 = .ok (.getfield 72, 3) := by decide +kernel
theorem dX10_init_267 : decode cX10_init 267 = .ok (.iconst 0, 1) := by decide +kernel
theorem dX10_init_268 : decode cX10_init 268 = .ok (.iconst (-1), 1) := by decide +kernel
theorem dX10_init_269 : decode cX10_init 269 = .ok (.iastore, 1) := by decide +kernel
theorem dX10_init_270 : decode cX10_init 270 = .ok (.aload_n 0, 1) := by decide +kernel
theorem dX10_init_271 : decode cX10_init 271 = .ok (.getfield 72, 3) := by decide +kernel
theorem dX10_init_274 : decode cX10_init 274 = .ok (.iconst 1, 1) := by decide +kernel
theorem dX10_init_275 : decode cX10_init 275 = .ok (.iconst (-1), 1) := by decide +kernel
theorem dX10_init_276 : decode cX10_init 276 = .ok (.iastore, 1) := by decide +kernel
theorem dX10_init_277 : decode cX10_init 277 = .ok (.return_, 1) := by decide +kernel
theorem dX10_isClass_0 : decode cX10_isClass 0 = .ok (.iload_n 0, 1) := by decide +kernel
theorem dX10_isClass_1 : decode cX10_isClass 1 = .ok (.ifCond .lt 13, 3) := by decide +kernel
theorem dX10_isClass_4 : decode cX10_isClass 4 = .ok (.iload_n 0, 1) := by decide +kernel
theorem dX10_isClass_5 : decode cX10_isClass 5 = .ok (.bipush 12, 2) := by decide +kernel
theorem dX10_isClass_7 : decode cX10_isClass 7 = .ok (.if_icmp .ge 7, 3) := by decide +kernel
theorem dX10_isClass_10 : decode cX10_isClass 10 = .ok (.iconst 1, 1) := by decide +kernel
theorem dX10_isClass_11 : decode cX10_isClass 11 = .ok (.goto 4, 3) := by decide +kernel
theorem dX10_isClass_14 : decode cX10_isClass 14 = .ok (.iconst 0, 1) := by decide +kernel
theorem dX10_isClass_15 : decode cX10_isClass 15 = .ok (.ireturn, 1) := by decide +kernel
theorem dX10_isTrait_0 : decode cX10_isTrait 0 = .ok (.iload_n 0, 1) := by decide +kernel
theorem dX10_isTrait_1 : decode cX10_isTrait 1 = .ok (.bipush 12, 2) := by decide +kernel
theorem dX10_isTrait_3 : decode cX10_isTrait 3 = .ok (.if_icmp .lt 13, 3) := by decide +kernel
theorem dX10_isTrait_6 : decode cX10_isTrait 6 = .ok (.iload_n 0, 1) := by decide +kernel
theorem dX10_isTrait_7 : decode cX10_isTrait 7 = .ok (.bipush 16, 2) := by decide +kernel
theorem dX10_isTrait_9 : decode cX10_isTrait 9 = .ok (.if_icmp .ge 7, 3) := by decide +kernel
theorem dX10_isTrait_12 : decode cX10_isTrait 12 = .ok (.iconst 1, 1) := by decide +kernel
theorem dX10_isTrait_13 : decode cX10_isTrait 13 = .ok (.goto 4, 3) := by decide +kernel
theorem dX10_isTrait_16 : decode cX10_isTrait 16 = .ok (.iconst 0, 1) := by decide +kernel
theorem dX10_isTrait_17 : decode cX10_isTrait 17 = .ok (.ireturn, 1) := by decide +kernel
set_option maxRecDepth 20000 in
theorem ggX10_parent_X10_isClass : GoodIn wsX10_parent wsX10_isClass := goodIn_r _ [6] (by decide +kernel) (by decide +kernel)
set_option maxRecDepth 20000 in
theorem gX10_parent_X10_isClass : GoodIn wsX10_parent (va_wsS RX10 106 yX10_isClass wsX10_isClass) := goodIn_app (goodIn_of _ (by decide +kernel)) ggX10_parent_X10_isClass
theorem dX10_parent_0 : decode cX10_parent 0 = .ok (.iload_n 1, 1) := by decide +kernel
theorem dX10_parent_1 : decode cX10_parent 1 = .ok (.invokestatic 106, 3) := by decide +kernel
theorem dX10_parent_4 : decode cX10_parent 4 = .ok (.ifCond .eq 15, 3) := by decide +kernel
theorem dX10_parent_7 : decode cX10_parent 7 = .ok (.iload_n 2, 1) := by decide +kernel
theorem dX10_parent_8 : decode cX10_parent 8 = .ok (.iconst (-1), 1) := by decide +kernel
theorem dX10_parent_9 : decode cX10_parent 9 = .ok (.if_icmp .eq 13, 3) := by decide +kernel
theorem dX10_parent_12 : decode cX10_parent 12 = .ok (.iload_n 2, 1) := by decide +kernel
theorem dX10_parent_13 : decode cX10_parent 13 = .ok (.invokestatic 106, 3) := by decide +kernel
theorem dX10_parent_16 : decode cX10_parent 16 = .ok (.ifCond .ne 6, 3) := by decide +kernel
theorem dX10_parent_19 : decode cX10_parent 19 = .ok (.bipush (-2), 2) := by decide +kernel
theorem dX10_parent_21 : decode cX10_parent 21 = .ok (.ireturn, 1) := by decide +kernel
theorem dX10_parent_22 : decode cX10_parent 22 = .ok (.aload_n 0, 1) := by decide +kernel
theorem dX10_parent_23 : decode cX10_parent 23 = .ok (.getfield 110, 3) := by decide +kernel
theorem dX10_parent_26 : decode cX10_parent 26 = .ok (.ifCond .eq 6, 3) := by decide +kernel
theorem dX10_parent_29 : decode cX10_parent 29 = .ok (.bipush (-3), 2) := by decide +kernel
theorem dX10_parent_31 : decode cX10_parent 31 = .ok (.ireturn, 1) := by decide +kernel
theorem dX10_parent_32 : decode cX10_parent 32 = .ok (.aload_n 0, 1) := by decide +kernel
theorem dX10_parent_33 : decode cX10_parent 33 = .ok (.getfield 7, 3) := by decide +kernel
theorem dX10_parent_36 : decode cX10_parent 36 = .ok (.iload_n 1, 1) := by decide +kernel
theorem dX10_parent_37 : decode cX10_parent 37 = .ok (.iload_n 2, 1) := by decide +kernel
theorem dX10_parent_38 : decode cX10_parent 38 = .ok (.iastore, 1) := by decide +kernel
theorem dX10_parent_39 : decode cX10_parent 39 = .ok (.iconst 1, 1) := by decide +kernel
theorem dX10_parent_40 : decode cX10_parent 40 = .ok (.ireturn, 1) := by decide +kernel
theorem dX10_add_0 : decode cX10_add 0 = .ok (.aload_n 0, 1) := by decide +kernel
theorem dX10_add_1 : decode cX10_add 1 = .ok (.getfield 110, 3) := by decide +kernel
theorem dX10_add_4 : decode cX10_add 4 = .ok (.ifCond .eq 6, 3) := by decide +kernel
theorem dX10_add_7 : decode cX10_add 7 = .ok (.bipush (-3), 2) := by decide +kernel
theorem dX10_add_9 : decode cX10_add 9 = .ok (.ireturn, 1) := by decide +kernel
theorem dX10_add_10 : decode cX10_add 10 = .ok (.aload_n 0, 1) := by decide +kernel
theorem dX10_add_11 : decode cX10_add 11 = .ok (.getfield 13, 3) := by decide +kernel
theorem dX10_add_14 : decode cX10_add 14 = .ok (.bipush 16, 2) := by decide +kernel
theorem dX10_add_16 : decode cX10_add 16 = .ok (.iload_n 1, 1) := by decide +kernel
theorem dX10_add_17 : decode cX10_add 17 = .ok (.imul, 1) := by decide +kernel
theorem dX10_add_18 : decode cX10_add 18 = .ok (.iload_n 2, 1) := by decide +kernel
theorem dX10_add_19 : decode cX10_add 19 = .ok (.iadd, 1) := by decide +kernel
theorem dX10_add_20 : decode cX10_add 20 = .ok (.baload, 1) := by decide +kernel
theorem dX10_add_21 : decode cX10_add 21 = .ok (.ifCond .eq 7, 3) := by decide +kernel
theorem dX10_add_24 : decode cX10_add 24 = .ok (.iconst 0, 1) := by decide +kernel
theorem dX10_add_25 : decode cX10_add 25 = .ok (.goto 4, 3) := by decide +kernel
theorem dX10_add_28 : decode cX10_add 28 = .ok (.iconst 1, 1) := by decide +kernel
theorem dX10_add_29 : decode cX10_add 29 = .ok (.istore_n 3, 1) := by decide +kernel
theorem dX10_add_30 : decode cX10_add 30 = .ok (.aload_n 0, 1) := by decide +kernel
theorem dX10_add_31 : decode cX10_add 31 = .ok (.getfield 13, 3) := by decide +kernel
theorem dX10_add_34 : decode cX10_add 34 = .ok (.bipush 16, 2) := by decide +kernel
theorem dX10_add_36 : decode cX10_add 36 = .ok (.iload_n 1, 1) := by decide +kernel
theorem dX10_add_37 : decode cX10_add 37 = .ok (.imul, 1) := by decide +kernel
theorem dX10_add_38 : decode cX10_add 38 = .ok (.iload_n 2, 1) := by decide +kernel
theorem dX10_add_39 : decode cX10_add 39 = .ok (.iadd, 1) := by decide +kernel
theorem dX10_add_40 : decode cX10_add 40 = .ok (.iconst 1, 1) := by decide +kernel
theorem dX10_add_41 : decode cX10_add 41 = .ok (.bastore, 1) := by decide +kernel
theorem dX10_add_42 : decode cX10_add 42 = .ok (.iload_n 3, 1) := by decide +kernel
theorem dX10_add_43 : decode cX10_add 43 = .ok (.ireturn, 1) := by decide +kernel
set_option maxRecDepth 20000 in
theorem ggX10_trait_X10_isTrait : GoodIn wsX10_trait wsX10_isTrait := goodIn_r _ [4] (by decide +kernel) (by decide +kernel)
set_option maxRecDepth 20000 in
theorem gX10_trait_X10_isTrait : GoodIn wsX10_trait (va_wsS RX10 114 yX10_isTrait wsX10_isTrait) := goodIn_app (goodIn_of _ (by decide +kernel)) ggX10_trait_X10_isTrait
set_option maxRecDepth 20000 in
theorem ggX10_trait_X10_add : GoodIn wsX10_trait wsX10_add := goodIn_r _ [8, 9, 10, 11, 12, 13, 14, 15, 16, 17, 18, 19, 20, 21, 22, 23, 24, 25, 26, 27, 28, 29, 30, 31, 32, 33, 34, 35, 36, 37, 38, 39, 40, 41, 42, 43, 44, 45, 46, 47, 48, 49] (by decide +kernel) (by decide +kernel)
set_option maxRecDepth 20000 in
theorem gX10_trait_X10_add : GoodIn wsX10_trait (wsV RX10 117 RX10 yX10_add wsX10_add) := goodIn_app (goodIn_of _ (by decide +kernel)) ggX10_trait_X10_add
theorem dX10_trait_0 : decode cX10_trait 0 = .ok (.iload_n 1, 1) := by decide +kernel
theorem dX10_trait_1 : decode cX10_trait 1 = .ok (.invokestatic 114, 3) := by decide +kernel
theorem dX10_trait_4 : decode cX10_trait 4 = .ok (.ifCond .eq 19, 3) := by decide +kernel
theorem dX10_trait_7 : decode cX10_trait 7 = .ok (.iload_n 2, 1) := by decide +kernel
theorem dX10_trait_8 : decode cX10_trait 8 = .ok (.invokestatic 114, 3) := by decide +kernel
theorem dX10_trait_11 : decode cX10_trait 11 = .ok (.ifCond .eq 12, 3) := by decide +kernel
theorem dX10_trait_14 : decode cX10_trait 14 = .ok (.aload_n 0, 1) := by decide +kernel
theorem dX10_trait_15 : decode cX10_trait 15 = .ok (.iload_n 1, 1) := by decide +kernel
theorem dX10_trait_16 : decode cX10_trait 16 = .ok (.iload_n 2, 1) := by decide +kernel
theorem dX10_trait_17 : decode cX10_trait 17 = .ok (.invokevirtual 117, 3) := by decide +kernel
theorem dX10_trait_20 : decode cX10_trait 20 = .ok (.goto 5, 3) := by decide +kernel
theorem dX10_trait_23 : decode cX10_trait 23 = .ok (.bipush (-2), 2) := by decide +kernel
theorem dX10_trait_25 : decode cX10_trait 25 = .ok (.ireturn, 1) := by decide +kernel
set_option maxRecDepth 20000 in
theorem ggX10_has_X10_isClass : GoodIn wsX10_has wsX10_isClass := goodIn_r _ [4] (by decide +kernel) (by decide +kernel)
set_option maxRecDepth 20000 in
theorem gX10_has_X10_isClass : GoodIn wsX10_has (va_wsS RX10 106 yX10_isClass wsX10_isClass) := goodIn_app (goodIn_of _ (by decide +kernel)) ggX10_has_X10_isClass
set_option maxRecDepth 20000 in
theorem ggX10_has_X10_isTrait : GoodIn wsX10_has wsX10_isTrait := goodIn_r _ [7] (by decide +kernel) (by decide +kernel)
set_option maxRecDepth 20000 in
theorem gX10_has_X10_isTrait : GoodIn wsX10_has (va_wsS RX10 114 yX10_isTrait wsX10_isTrait) := goodIn_app (goodIn_of _ (by decide +kernel)) ggX10_has_X10_isTrait
set_option maxRecDepth 20000 in
theorem ggX10_has_X10_add : GoodIn wsX10_has wsX10_add := goodIn_r _ [11, 12, 13, 14, 15, 16, 17, 18, 19, 20, 21, 22, 23, 24, 25, 26, 27, 28, 29, 30, 31, 32, 33, 34, 35, 36, 37, 38, 39, 40, 41, 42, 43, 44, 45, 46, 47, 48, 49, 50, 51, 52] (by decide +kernel) (by decide +kernel)
set_option maxRecDepth 20000 in
theorem gX10_has_X10_add : GoodIn wsX10_has (wsV RX10 117 RX10 yX10_add wsX10_add) := goodIn_app (goodIn_of _ (by decide +kernel)) ggX10_has_X10_add
theorem dX10_has_0 : decode cX10_has 0 = .ok (.iload_n 1, 1) := by decide +kernel
theorem dX10_has_1 : decode cX10_has 1 = .ok (.invokestatic 106, 3) := by decide +kernel
theorem dX10_has_4 : decode cX10_has 4 = .ok (.ifCond .eq 19, 3) := by decide +kernel
theorem dX10_has_7 : decode cX10_has 7 = .ok (.iload_n 2, 1) := by decide +kernel
theorem dX10_has_8 : decode cX10_has 8 = .ok (.invokestatic 114, 3) := by decide +kernel
theorem dX10_has_11 : decode cX10_has 11 = .ok (.ifCond .eq 12, 3) := by decide +kernel
theorem dX10_has_14 : decode cX10_has 14 = .ok (.aload_n 0, 1) := by decide +kernel
theorem dX10_has_15 : decode cX10_has 15 = .ok (.iload_n 1, 1) := by decide +kernel
theorem dX10_has_16 : decode cX10_has 16 = .ok (.iload_n 2, 1) := by decide +kernel
theorem dX10_has_17 : decode cX10_has 17 = .ok (.invokevirtual 117, 3) := by decide +kernel
theorem dX10_has_20 : decode cX10_has 20 = .ok (.goto 5, 3) := by decide +kernel
theorem dX10_has_23 : decode cX10_has 23 = .ok (.bipush (-2), 2) := by decide +kernel
theorem dX10_has_25 : decode cX10_has 25 = .ok (.ireturn, 1) := by decide +kernel
set_option maxRecDepth 20000 in
theorem ggX10_flag_X10_isClass : GoodIn wsX10_flag wsX10_isClass := goodIn_r _ [6] (by decide +kernel) (by decide +kernel)
set_option maxRecDepth 20000 in
theorem gX10_flag_X10_isClass : GoodIn wsX10_flag (va_wsS RX10 106 yX10_isClass wsX10_isClass) := goodIn_app (goodIn_of _ (by decide +kernel)) ggX10_flag_X10_isClass
theorem dX10_flag_0 : decode cX10_flag 0 = .ok (.iload_n 1, 1) := by decide +kernel
theorem dX10_flag_1 : decode cX10_flag 1 = .ok (.invokestatic 106, 3) := by decide +kernel
theorem dX10_flag_4 : decode cX10_flag 4 = .ok (.ifCond .ne 6, 3) := by decide +kernel
theorem dX10_flag_7 : decode cX10_flag 7 = .ok (.bipush (-2), 2) := by decide +kernel
theorem dX10_flag_9 : decode cX10_flag 9 = .ok (.ireturn, 1) := by decide +kernel
theorem dX10_flag_10 : decode cX10_flag 10 = .ok (.aload_n 0, 1) := by decide +kernel
theorem dX10_flag_11 : decode cX10_flag 11 = .ok (.getfield 110, 3) := by decide +kernel
theorem dX10_flag_14 : decode cX10_flag 14 = .ok (.ifCond .eq 6, 3) := by decide +kernel
theorem dX10_flag_17 : decode cX10_flag 17 = .ok (.bipush (-3), 2) := by decide +kernel
theorem dX10_flag_19 : decode cX10_flag 19 = .ok (.ireturn, 1) := by decide +kernel
theorem dX10_flag_20 : decode cX10_flag 20 = .ok (.aload_n 0, 1) := by decide +kernel
theorem dX10_flag_21 : decode cX10_flag 21 = .ok (.getfield 20, 3) := by decide +kernel
theorem dX10_flag_24 : decode cX10_flag 24 = .ok (.iload_n 1, 1) := by decide +kernel
theorem dX10_flag_25 : decode cX10_flag 25 = .ok (.baload, 1) := by decide +kernel
theorem dX10_flag_26 : decode cX10_flag 26 = .ok (.ifCond .eq 7, 3) := by decide +kernel
theorem dX10_flag_29 : decode cX10_flag 29 = .ok (.iconst 0, 1) := by decide +kernel
theorem dX10_flag_30 : decode cX10_flag 30 = .ok (.goto 4, 3) := by decide +kernel
theorem dX10_flag_33 : decode cX10_flag 33 = .ok (.iconst 1, 1) := by decide +kernel
theorem dX10_flag_34 : decode cX10_flag 34 = .ok (.istore_n 2, 1) := by decide +kernel
theorem dX10_flag_35 : decode cX10_flag 35 = .ok (.aload_n 0, 1) := by decide +kernel
theorem dX10_flag_36 : decode cX10_flag 36 = .ok (.getfield 20, 3) := by decide +kernel
theorem dX10_flag_39 : decode cX10_flag 39 = .ok (.iload_n 1, 1) := by decide +kernel
theorem dX10_flag_40 : decode cX10_flag 40 = .ok (.iconst 1, 1) := by decide +kernel
theorem dX10_flag_41 : decode cX10_flag 41 = .ok (.bastore, 1) := by decide +kernel
theorem dX10_flag_42 : decode cX10_flag 42 = .ok (.iload_n 2, 1) := by decide +kernel
theorem dX10_flag_43 : decode cX10_flag 43 = .ok (.ireturn, 1) := by decide +kernel
theorem dX10_close_0 : decode cX10_close 0 = .ok (.aload_n 0, 1) := by decide +kernel
theorem dX10_close_1 : decode cX10_close 1 = .ok (.getfield 110, 3) := by decide +kernel
theorem dX10_close_4 : decode cX10_close 4 = .ok (.ifCond .eq 6, 3) := by decide +kernel
theorem dX10_close_7 : decode cX10_close 7 = .ok (.bipush (-3), 2) := by decide +kernel
theorem dX10_close_9 : decode cX10_close 9 = .ok (.ireturn, 1) := by decide +kernel
theorem dX10_close_10 : decode cX10_close 10 = .ok (.iconst 0, 1) := by decide +kernel
theorem dX10_close_11 : decode cX10_close 11 = .ok (.istore_n 1, 1) := by decide +kernel
theorem dX10_close_12 : decode cX10_close 12 = .ok (.iload_n 1, 1) := by decide +kernel
theorem dX10_close_13 : decode cX10_close 13 = .ok (.sipush 256, 3) := by decide +kernel
theorem dX10_close_16 : decode cX10_close 16 = .ok (.if_icmp .ge 21, 3) := by decide +kernel
theorem dX10_close_19 : decode cX10_close 19 = .ok (.aload_n 0, 1) := by decide +kernel
theorem dX10_close_20 : decode cX10_close 20 = .ok (.getfield 17, 3) := by decide +kernel
theorem dX10_close_23 : decode cX10_close 23 = .ok (.iload_n 1, 1) := by decide +kernel
theorem dX10_close_24 : decode cX10_close 24 = .ok (.aload_n 0, 1) := by decide +kernel
theorem dX10_close_25 : decode cX10_close 25 = .ok (.getfield 13, 3) := by decide +kernel
theorem dX10_close_28 : decode cX10_close 28 = .ok (.iload_n 1, 1) := by decide +kernel
theorem dX10_close_29 : decode cX10_close 29 = .ok (.baload, 1) := by decide +kernel
theorem dX10_close_30 : decode cX10_close 30 = .ok (.bastore, 1) := by decide +kernel
theorem dX10_close_31 : decode cX10_close 31 = .ok (.iinc 1 1, 3) := by decide +kernel
theorem dX10_close_34 : decode cX10_close 34 = .ok (.goto (-22), 3) := by decide +kernel
theorem dX10_close_37 : decode cX10_close 37 = .ok (.iconst 0, 1) := by decide +kernel
theorem dX10_close_38 : decode cX10_close 38 = .ok (.istore_n 1, 1) := by decide +kernel
theorem dX10_close_39 : decode cX10_close 39 = .ok (.iload_n 1, 1) := by decide +kernel
theorem dX10_close_40 : decode cX10_close 40 = .ok (.bipush 12, 2) := by decide +kernel
theorem dX10_close_42 : decode cX10_close 42 = .ok (.if_icmp .ge 35, 3) := by decide +kernel
theorem dX10_close_45 : decode cX10_close 45 = .ok (.aload_n 0, 1) := by decide +kernel
theorem dX10_close_46 : decode cX10_close 46 = .ok (.getfield 7, 3) := by decide +kernel
theorem dX10_close_49 : decode cX10_close 49 = .ok (.iload_n 1, 1) := by decide +kernel
theorem dX10_close_50 : decode cX10_close 50 = .ok (.iaload, 1) := by decide +kernel
theorem dX10_close_51 : decode cX10_close 51 = .ok (.ifCond .lt 20, 3) := by decide +kernel
theorem dX10_close_54 : decode cX10_close 54 = .ok (.aload_n 0, 1) := by decide +kernel
theorem dX10_close_55 : decode cX10_close 55 = .ok (.getfield 17, 3) := by decide +kernel
theorem dX10_close_58 : decode cX10_close 58 = .ok (.bipush 16, 2) := by decide +kernel
theorem dX10_close_60 : decode cX10_close 60 = .ok (.iload_n 1, 1) := by decide +kernel
theorem dX10_close_61 : decode cX10_close 61 = .ok (.imul, 1) := by decide +kernel
theorem dX10_close_62 : decode cX10_close 62 = .ok (.aload_n 0, 1) := by decide +kernel
theorem dX10_close_63 : decode cX10_close 63 = .ok (.getfield 7, 3) := by decide +kernel
theorem dX10_close_66 : decode cX10_close 66 = .ok (.iload_n 1, 1) := by decide +kernel
theorem dX10_close_67 : decode cX10_close 67 = .ok (.iaload, 1) := by decide +kernel
theorem dX10_close_68 : decode cX10_close 68 = .ok (.iadd, 1) := by decide +kernel
theorem dX10_close_69 : decode cX10_close 69 = .ok (.iconst 1, 1) := by decide +kernel
theorem dX10_close_70 : decode cX10_close 70 = .ok (.bastore, 1) := by decide +kernel
theorem dX10_close_71 : decode cX10_close 71 = .ok (.iinc 1 1, 3) := by decide +kernel
theorem dX10_close_74 : decode cX10_close 74 = .ok (.goto (-35), 3) := by decide +kernel
theorem dX10_close_77 : decode cX10_close 77 = .ok (.iconst 0, 1) := by decide +kernel
theorem dX10_close_78 : decode cX10_close 78 = .ok (.istore_n 1, 1) := by decide +kernel
theorem dX10_close_79 : decode cX10_close 79 = .ok (.iload_n 1, 1) := by decide +kernel
theorem dX10_close_80 : decode cX10_close 80 = .ok (.bipush 16, 2) := by decide +kernel
theorem dX10_close_82 : decode cX10_close 82 = .ok (.if_icmp .ge 95, 3) := by decide +kernel
theorem dX10_close_85 : decode cX10_close 85 = .ok (.iconst 0, 1) := by decide +kernel
theorem dX10_close_86 : decode cX10_close 86 = .ok (.istore_n 2, 1) := by decide +kernel
theorem dX10_close_87 : decode cX10_close 87 = .ok (.iload_n 2, 1) := by decide +kernel
theorem dX10_close_88 : decode cX10_close 88 = .ok (.bipush 16, 2) := by decide +kernel
theorem dX10_close_90 : decode cX10_close 90 = .ok (.if_icmp .ge 81, 3) := by decide +kernel
theorem dX10_close_93 : decode cX10_close 93 = .ok (.iconst 0, 1) := by decide +kernel
theorem dX10_close_94 : decode cX10_close 94 = .ok (.istore_n 3, 1) := by decide +kernel
theorem dX10_close_95 : decode cX10_close 95 = .ok (.iload_n 3, 1) := by decide +kernel
theorem dX10_close_96 : decode cX10_close 96 = .ok (.bipush 16, 2) := by decide +kernel
theorem dX10_close_98 : decode cX10_close 98 = .ok (.if_icmp .ge 67, 3) := by decide +kernel
theorem dX10_close_101 : decode cX10_close 101 = .ok (.aload_n 0, 1) := by decide +kernel
theorem dX10_close_102 : decode cX10_close 102 = .ok (.getfield 17, 3) := by decide +kernel
theorem dX10_close_105 : decode cX10_close 105 = .ok (.bipush 16, 2) := by decide +kernel
theorem dX10_close_107 : decode cX10_close 107 = .ok (.iload_n 2, 1) := by decide +kernel
theorem dX10_close_108 : decode cX10_close 108 = .ok (.imul, 1) := by decide +kernel
theorem dX10_close_109 : decode cX10_close 109 = .ok (.iload_n 3, 1) := by decide +kernel
theorem dX10_close_110 : decode cX10_close 110 = .ok (.iadd, 1) := by decide +kernel
theorem dX10_close_111 : decode cX10_close 111 = .ok (.aload_n 0, 1) := by decide +kernel
theorem dX10_close_112 : decode cX10_close 112 = .ok (.getfield 17, 3) := by decide +kernel
theorem dX10_close_115 : decode cX10_close 115 = .ok (.bipush 16, 2) := by decide +kernel
theorem dX10_close_117 : decode cX10_close 117 = .ok (.iload_n 2, 1) := by decide +kernel
theorem dX10_close_118 : decode cX10_close 118 = .ok (.imul, 1) := by decide +kernel
theorem dX10_close_119 : decode cX10_close 119 = .ok (.iload_n 3, 1) := by decide +kernel
theorem dX10_close_120 : decode cX10_close 120 = .ok (.iadd, 1) := by decide +kernel
theorem dX10_close_121 : decode cX10_close 121 = .ok (.baload, 1) := by decide +kernel
theorem dX10_close_122 : decode cX10_close 122 = .ok (.ifCond .ne 31, 3) := by decide +kernel
theorem dX10_close_125 : decode cX10_close 125 = .ok (.aload_n 0, 1) := by decide +kernel
theorem dX10_close_126 : decode cX10_close 126 = .ok (.getfield 17, 3) := by decide +kernel
theorem dX10_close_129 : decode cX10_close 129 = .ok (.bipush 16, 2) := by decide +kernel
theorem dX10_close_131 : decode cX10_close 131 = .ok (.iload_n 2, 1) := by decide +kernel
theorem dX10_close_132 : decode cX10_close 132 = .ok (.imul, 1) := by decide +kernel
theorem dX10_close_133 : decode cX10_close 133 = .ok (.iload_n 1, 1) := by decide +kernel
theorem dX10_close_134 : decode cX10_close 134 = .ok (.iadd, 1) := by decide +kernel
theorem dX10_close_135 : decode cX10_close 135 = .ok (.baload, 1) := by decide +kernel
theorem dX10_close_136 : decode cX10_close 136 = .ok (.ifCond .eq 21, 3) := by decide +kernel
theorem dX10_close_139 : decode cX10_close 139 = .ok (.aload_n 0, 1) := by decide +kernel
theorem dX10_close_140 : decode cX10_close 140 = .ok (.getfield 17, 3) := by decide +kernel
theorem dX10_close_143 : decode cX10_close 143 = .ok (.bipush 16, 2) := by decide +kernel
theorem dX10_close_145 : decode cX10_close 145 = .ok (.iload_n 1, 1) := by decide +kernel
theorem dX10_close_146 : decode cX10_close 146 = .ok (.imul, 1) := by decide +kernel
theorem dX10_close_147 : decode cX10_close 147 = .ok (.iload_n 3, 1) := by decide +kernel
theorem dX10_close_148 : decode cX10_close 148 = .ok (.iadd, 1) := by decide +kernel
theorem dX10_close_149 : decode cX10_close 149 = .ok (.baload, 1) := by decide +kernel
theorem dX10_close_150 : decode cX10_close 150 = .ok (.ifCond .eq 7, 3) := by decide +kernel
theorem dX10_close_153 : decode cX10_close 153 = .ok (.iconst 1, 1) := by decide +kernel
theorem dX10_close_154 : decode cX10_close 154 = .ok (.goto 4, 3) := by decide +kernel
theorem dX10_close_157 : decode cX10_close 157 = .ok (.iconst 0, 1) := by decide +kernel
theorem dX10_close_158 : decode cX10_close 158 = .ok (.bastore, 1) := by decide +kernel
theorem dX10_close_159 : decode cX10_close 159 = .ok (.iinc 3 1, 3) := by decide +kernel
theorem dX10_close_162 : decode cX10_close 162 = .ok (.goto (-67), 3) := by decide +kernel
theorem dX10_close_165 : decode cX10_close 165 = .ok (.iinc 2 1, 3) := by decide +kernel
theorem dX10_close_168 : decode cX10_close 168 = .ok (.goto (-81), 3) := by decide +kernel
theorem dX10_close_171 : decode cX10_close 171 = .ok (.iinc 1 1, 3) := by decide +kernel
theorem dX10_close_174 : decode cX10_close 174 = .ok (.goto (-95), 3) := by decide +kernel
theorem dX10_close_177 : decode cX10_close 177 = .ok (.iconst 0, 1) := by decide +kernel
theorem dX10_close_178 : decode cX10_close 178 = .ok (.istore_n 1, 1) := by decide +kernel
theorem dX10_close_179 : decode cX10_close 179 = .ok (.iload_n 1, 1) := by decide +kernel
theorem dX10_close_180 : decode cX10_close 180 = .ok (.bipush 16, 2) := by decide +kernel
theorem dX10_close_182 : decode cX10_close 182 = .ok (.if_icmp .ge 24, 3) := by decide +kernel
theorem dX10_close_185 : decode cX10_close 185 = .ok (.aload_n 0, 1) := by decide +kernel
theorem dX10_close_186 : decode cX10_close 186 = .ok (.getfield 17, 3) := by decide +kernel
theorem dX10_close_189 : decode cX10_close 189 = .ok (.bipush 17, 2) := by decide +kernel
theorem dX10_close_191 : decode cX10_close 191 = .ok (.iload_n 1, 1) := by decide +kernel
theorem dX10_close_192 : decode cX10_close 192 = .ok (.imul, 1) := by decide +kernel
theorem dX10_close_193 : decode cX10_close 193 = .ok (.baload, 1) := by decide +kernel
theorem dX10_close_194 : decode cX10_close 194 = .ok (.ifCond .eq 6, 3) := by decide +kernel
theorem dX10_close_197 : decode cX10_close 197 = .ok (.bipush (-5), 2) := by decide +kernel
theorem dX10_close_199 : decode cX10_close 199 = .ok (.ireturn, 1) := by decide +kernel
theorem dX10_close_200 : decode cX10_close 200 = .ok (.iinc 1 1, 3) := by decide +kernel
theorem dX10_close_203 : decode cX10_close 203 = .ok (.goto (-24), 3) := by decide +kernel
theorem dX10_close_206 : decode cX10_close 206 = .ok (.iconst 0, 1) := by decide +kernel
theorem dX10_close_207 : decode cX10_close 207 = .ok (.istore_n 1, 1) := by decide +kernel
theorem dX10_close_208 : decode cX10_close 208 = .ok (.iload_n 1, 1) := by decide +kernel
theorem dX10_close_209 : decode cX10_close 209 = .ok (.bipush 16, 2) := by decide +kernel
theorem dX10_close_211 : decode cX10_close 211 = .ok (.if_icmp .ge 19, 3) := by decide +kernel
theorem dX10_close_214 : decode cX10_close 214 = .ok (.aload_n 0, 1) := by decide +kernel
theorem dX10_close_215 : decode cX10_close 215 = .ok (.getfield 17, 3) := by decide +kernel
theorem dX10_close_218 : decode cX10_close 218 = .ok (.bipush 17, 2) := by decide +kernel
theorem dX10_close_220 : decode cX10_close 220 = .ok (.iload_n 1, 1) := by decide +kernel
theorem dX10_close_221 : decode cX10_close 221 = .ok (.imul, 1) := by decide +kernel
theorem dX10_close_222 : decode cX10_close 222 = .ok (.iconst 1, 1) := by decide +kernel
theorem dX10_close_223 : decode cX10_close 223 = .ok (.bastore, 1) := by decide +kernel
theorem dX10_close_224 : decode cX10_close 224 = .ok (.iinc 1 1, 3) := by decide +kernel
theorem dX10_close_227 : decode cX10_close 227 = .ok (.goto (-19), 3) := by decide +kernel
theorem dX10_close_230 : decode cX10_close 230 = .ok (.aload_n 0, 1) := by decide +kernel
theorem dX10_close_231 : decode cX10_close 231 = .ok (.iconst 1, 1) := by decide +kernel
theorem dX10_close_232 : decode cX10_close 232 = .ok (.putfield 110, 3) := by decide +kernel
theorem dX10_close_235 : decode cX10_close 235 = .ok (.iconst 1, 1) := by decide +kernel
theorem dX10_close_236 : decode cX10_close 236 = .ok (.ireturn, 1) := by decide +kernel
theorem dX10_isBelow_0 : decode cX10_isBelow 0 = .ok (.aload_n 0, 1) := by decide +kernel
theorem dX10_isBelow_1 : decode cX10_isBelow 1 = .ok (.getfield 17, 3) := by decide +kernel
theorem dX10_isBelow_4 : decode cX10_isBelow 4 = .ok (.bipush 16, 2) := by decide +kernel
theorem dX10_isBelow_6 : decode cX10_isBelow 6 = .ok (.iload_n 1, 1) := by decide +kernel
theorem dX10_isBelow_7 : decode cX10_isBelow 7 = .ok (.imul, 1) := by decide +kernel
theorem dX10_isBelow_8 : decode cX10_isBelow 8 = .ok (.iload_n 2, 1) := by decide +kernel
theorem dX10_isBelow_9 : decode cX10_isBelow 9 = .ok (.iadd, 1) := by decide +kernel
theorem dX10_isBelow_10 : decode cX10_isBelow 10 = .ok (.baload, 1) := by decide +kernel
theorem dX10_isBelow_11 : decode cX10_isBelow 11 = .ok (.ireturn, 1) := by decide +kernel
set_option maxRecDepth 20000 in
theorem ggX10_below_X10_isBelow : GoodIn wsX10_below wsX10_isBelow := goodIn_r _ [6, 7, 8, 9, 10, 11, 12, 13, 14, 15, 16, 17, 18, 19, 20, 21, 22, 23, 24, 25, 26, 27, 28, 29, 30, 31, 32, 33, 34, 35, 36, 37, 38, 39, 40, 41, 42, 43, 44, 45, 46] (by decide +kernel) (by decide +kernel)
set_option maxRecDepth 20000 in
theorem gX10_below_X10_isBelow : GoodIn wsX10_below (wsV RX10 121 RX10 yX10_isBelow wsX10_isBelow) := goodIn_app (goodIn_of _ (by decide +kernel)) ggX10_below_X10_isBelow
theorem dX10_below_0 : decode cX10_below 0 = .ok (.aload_n 0, 1) := by decide +kernel
theorem dX10_below_1 : decode cX10_below 1 = .ok (.getfield 110, 3) := by decide +kernel
theorem dX10_below_4 : decode cX10_below 4 = .ok (.ifCond .eq 36, 3) := by decide +kernel
theorem dX10_below_7 : decode cX10_below 7 = .ok (.iload_n 1, 1) := by decide +kernel
theorem dX10_below_8 : decode cX10_below 8 = .ok (.ifCond .lt 32, 3) := by decide +kernel
theorem dX10_below_11 : decode cX10_below 11 = .ok (.iload_n 1, 1) := by decide +kernel
theorem dX10_below_12 : decode cX10_below 12 = .ok (.bipush 16, 2) := by decide +kernel
theorem dX10_below_14 : decode cX10_below 14 = .ok (.if_icmp .ge 26, 3) := by decide +kernel
theorem dX10_below_17 : decode cX10_below 17 = .ok (.iload_n 2, 1) := by decide +kernel
theorem dX10_below_18 : decode cX10_below 18 = .ok (.ifCond .lt 22, 3) := by decide +kernel
theorem dX10_below_21 : decode cX10_below 21 = .ok (.iload_n 2, 1) := by decide +kernel
theorem dX10_below_22 : decode cX10_below 22 = .ok (.bipush 16, 2) := by decide +kernel
theorem dX10_below_24 : decode cX10_below 24 = .ok (.if_icmp .ge 16, 3) := by decide +kernel
theorem dX10_below_27 : decode cX10_below 27 = .ok (.aload_n 0, 1) := by decide +kernel
theorem dX10_below_28 : decode cX10_below 28 = .ok (.iload_n 1, 1) := by decide +kernel
theorem dX10_below_29 : decode cX10_below 29 = .ok (.iload_n 2, 1) := by decide +kernel
theorem dX10_below_30 : decode cX10_below 30 = .ok (.invokevirtual 121, 3) := by decide +kernel
theorem dX10_below_33 : decode cX10_below 33 = .ok (.ifCond .eq 7, 3) := by decide +kernel
theorem dX10_below_36 : decode cX10_below 36 = .ok (.iconst 1, 1) := by decide +kernel
theorem dX10_below_37 : decode cX10_below 37 = .ok (.goto 4, 3) := by decide +kernel
theorem dX10_below_40 : decode cX10_below 40 = .ok (.iconst 0, 1) := by decide +kernel
theorem dX10_below_41 : decode cX10_below 41 = .ok (.ireturn, 1) := by decide +kernel
set_option maxRecDepth 20000 in
theorem ggX10_sample_X10_isClass : GoodIn wsX10_sample wsX10_isClass := goodIn_r _ [9] (by decide +kernel) (by decide +kernel)
set_option maxRecDepth 20000 in
theorem gX10_sample_X10_isClass : GoodIn wsX10_sample (va_wsS RX10 106 yX10_isClass wsX10_isClass) := goodIn_app (goodIn_of _ (by decide +kernel)) ggX10_sample_X10_isClass
theorem dX10_sample_0 : decode cX10_sample 0 = .ok (.iload_n 1, 1) := by decide +kernel
theorem dX10_sample_1 : decode cX10_sample 1 = .ok (.invokestatic 106, 3) := by decide +kernel
theorem dX10_sample_4 : decode cX10_sample 4 = .ok (.ifCond .ne 6, 3) := by decide +kernel
theorem dX10_sample_7 : decode cX10_sample 7 = .ok (.bipush (-2), 2) := by decide +kernel
theorem dX10_sample_9 : decode cX10_sample 9 = .ok (.ireturn, 1) := by decide +kernel
theorem dX10_sample_10 : decode cX10_sample 10 = .ok (.aload_n 0, 1) := by decide +kernel
theorem dX10_sample_11 : decode cX10_sample 11 = .ok (.getfield 110, 3) := by decide +kernel
theorem dX10_sample_14 : decode cX10_sample 14 = .ok (.ifCond .ne 6, 3) := by decide +kernel
theorem dX10_sample_17 : decode cX10_sample 17 = .ok (.bipush (-3), 2) := by decide +kernel
theorem dX10_sample_19 : decode cX10_sample 19 = .ok (.ireturn, 1) := by decide +kernel
theorem dX10_sample_20 : decode cX10_sample 20 = .ok (.aload_n 0, 1) := by decide +kernel
theorem dX10_sample_21 : decode cX10_sample 21 = .ok (.getfield 20, 3) := by decide +kernel
theorem dX10_sample_24 : decode cX10_sample 24 = .ok (.iload_n 1, 1) := by decide +kernel
theorem dX10_sample_25 : decode cX10_sample 25 = .ok (.baload, 1) := by decide +kernel
theorem dX10_sample_26 : decode cX10_sample 26 = .ok (.ifCond .eq 6, 3) := by decide +kernel
theorem dX10_sample_29 : decode cX10_sample 29 = .ok (.bipush (-6), 2) := by decide +kernel
theorem dX10_sample_31 : decode cX10_sample 31 = .ok (.ireturn, 1) := by decide +kernel
theorem dX10_sample_32 : decode cX10_sample 32 = .ok (.aload_n 0, 1) := by decide +kernel
theorem dX10_sample_33 : decode cX10_sample 33 = .ok (.getfield 125, 3) := by decide +kernel
theorem dX10_sample_36 : decode cX10_sample 36 = .ok (.sipush 300, 3) := by decide +kernel
theorem dX10_sample_39 : decode cX10_sample 39 = .ok (.if_icmp .ne 6, 3) := by decide +kernel
theorem dX10_sample_42 : decode cX10_sample 42 = .ok (.bipush (-4), 2) := by decide +kernel
theorem dX10_sample_44 : decode cX10_sample 44 = .ok (.ireturn, 1) := by decide +kernel
theorem dX10_sample_45 : decode cX10_sample 45 = .ok (.aload_n 0, 1) := by decide +kernel
theorem dX10_sample_46 : decode cX10_sample 46 = .ok (.getfield 23, 3) := by decide +kernel
theorem dX10_sample_49 : decode cX10_sample 49 = .ok (.aload_n 0, 1) := by decide +kernel
theorem dX10_sample_50 : decode cX10_sample 50 = .ok (.getfield 125, 3) := by decide +kernel
theorem dX10_sample_53 : decode cX10_sample 53 = .ok (.iload_n 1, 1) := by decide +kernel
theorem dX10_sample_54 : decode cX10_sample 54 = .ok (.iastore, 1) := by decide +kernel
theorem dX10_sample_55 : decode cX10_sample 55 = .ok (.aload_n 0, 1) := by decide +kernel
theorem dX10_sample_56 : decode cX10_sample 56 = .ok (.getfield 26, 3) := by decide +kernel
theorem dX10_sample_59 : decode cX10_sample 59 = .ok (.aload_n 0, 1) := by decide +kernel
theorem dX10_sample_60 : decode cX10_sample 60 = .ok (.getfield 125, 3) := by decide +kernel
theorem dX10_sample_63 : decode cX10_sample 63 = .ok (.iload_n 2, 1) := by decide +kernel
theorem dX10_sample_64 : decode cX10_sample 64 = .ok (.iastore, 1) := by decide +kernel
theorem dX10_sample_65 : decode cX10_sample 65 = .ok (.aload_n 0, 1) := by decide +kernel
theorem dX10_sample_66 : decode cX10_sample 66 = .ok (.dup, 1) := by decide +kernel
theorem dX10_sample_67 : decode cX10_sample 67 = .ok (.getfield 125, 3) := by decide +kernel
theorem dX10_sample_70 : decode cX10_sample 70 = .ok (.iconst 1, 1) := by decide +kernel
theorem dX10_sample_71 : decode cX10_sample 71 = .ok (.iadd, 1) := by decide +kernel
theorem dX10_sample_72 : decode cX10_sample 72 = .ok (.putfield 125, 3) := by decide +kernel
theorem dX10_sample_75 : decode cX10_sample 75 = .ok (.aload_n 0, 1) := by decide +kernel
theorem dX10_sample_76 : decode cX10_sample 76 = .ok (.getfield 125, 3) := by decide +kernel
theorem dX10_sample_79 : decode cX10_sample 79 = .ok (.iconst 1, 1) := by decide +kernel
theorem dX10_sample_80 : decode cX10_sample 80 = .ok (.isub, 1) := by decide +kernel
theorem dX10_sample_81 : decode cX10_sample 81 = .ok (.ireturn, 1) := by decide +kernel
theorem dX10_of_0 : decode cX10_of 0 = .ok (.iload_n 1, 1) := by decide +kernel
theorem dX10_of_1 : decode cX10_of 1 = .ok (.ifCond .lt 20, 3) := by decide +kernel
theorem dX10_of_4 : decode cX10_of 4 = .ok (.iload_n 1, 1) := by decide +kernel
theorem dX10_of_5 : decode cX10_of 5 = .ok (.aload_n 0, 1) := by decide +kernel
theorem dX10_of_6 : decode cX10_of 6 = .ok (.getfield 125, 3) := by decide +kernel
theorem dX10_of_9 : decode cX10_of 9 = .ok (.if_icmp .ge 12, 3) := by decide +kernel
theorem dX10_of_12 : decode cX10_of 12 = .ok (.iload_n 2, 1) := by decide +kernel
theorem dX10_of_13 : decode cX10_of 13 = .ok (.ifCond .lt 8, 3) := by decide +kernel
theorem dX10_of_16 : decode cX10_of 16 = .ok (.iload_n 2, 1) := by decide +kernel
theorem dX10_of_17 : decode cX10_of 17 = .ok (.iconst 1, 1) := by decide +kernel
theorem dX10_of_18 : decode cX10_of 18 = .ok (.if_icmp .le 5, 3) := by decide +kernel
theorem dX10_of_21 : decode cX10_of 21 = .ok (.iconst (-1), 1) := by decide +kernel
theorem dX10_of_22 : decode cX10_of 22 = .ok (.ireturn, 1) := by decide +kernel
theorem dX10_of_23 : decode cX10_of 23 = .ok (.iload_n 2, 1) := by decide +kernel
theorem dX10_of_24 : decode cX10_of 24 = .ok (.ifCond .ne 12, 3) := by decide +kernel
theorem dX10_of_27 : decode cX10_of 27 = .ok (.aload_n 0, 1) := by decide +kernel
theorem dX10_of_28 : decode cX10_of 28 = .ok (.getfield 23, 3) := by decide +kernel
theorem dX10_of_31 : decode cX10_of 31 = .ok (.iload_n 1, 1) := by decide +kernel
theorem dX10_of_32 : decode cX10_of 32 = .ok (.iaload, 1) := by decide +kernel
theorem dX10_of_33 : decode cX10_of 33 = .ok (.goto 9, 3) := by decide +kernel
theorem dX10_of_36 : decode cX10_of 36 = .ok (.aload_n 0, 1) := by decide +kernel
theorem dX10_of_37 : decode cX10_of 37 = .ok (.getfield 26, 3) := by decide +kernel
theorem dX10_of_40 : decode cX10_of 40 = .ok (.iload_n 1, 1) := by decide +kernel
theorem dX10_of_41 : decode cX10_of 41 = .ok (.iaload, 1) := by decide +kernel
theorem dX10_of_42 : decode cX10_of 42 = .ok (.ireturn, 1) := by decide +kernel
theorem dX10_samples_0 : decode cX10_samples 0 = .ok (.aload_n 0, 1) := by decide +kernel
theorem dX10_samples_1 : decode cX10_samples 1 = .ok (.getfield 125, 3) := by decide +kernel
theorem dX10_samples_4 : decode cX10_samples 4 = .ok (.ireturn, 1) := by decide +kernel
theorem dX10_function_0 : decode cX10_function 0 = .ok (.iload_n 1, 1) := by decide +kernel
theorem dX10_function_1 : decode cX10_function 1 = .ok (.iconst 1, 1) := by decide +kernel
theorem dX10_function_2 : decode cX10_function 2 = .ok (.if_icmp .lt 8, 3) := by decide +kernel
theorem dX10_function_5 : decode cX10_function 5 = .ok (.iload_n 1, 1) := by decide +kernel
theorem dX10_function_6 : decode cX10_function 6 = .ok (.iconst 2, 1) := by decide +kernel
theorem dX10_function_7 : decode cX10_function 7 = .ok (.if_icmp .le 6, 3) := by decide +kernel
theorem dX10_function_10 : decode cX10_function 10 = .ok (.bipush (-2), 2) := by decide +kernel
theorem dX10_function_12 : decode cX10_function 12 = .ok (.ireturn, 1) := by decide +kernel
theorem dX10_function_13 : decode cX10_function 13 = .ok (.aload_n 0, 1) := by decide +kernel
theorem dX10_function_14 : decode cX10_function 14 = .ok (.getfield 110, 3) := by decide +kernel
theorem dX10_function_17 : decode cX10_function 17 = .ok (.ifCond .ne 6, 3) := by decide +kernel
theorem dX10_function_20 : decode cX10_function 20 = .ok (.bipush (-3), 2) := by decide +kernel
theorem dX10_function_22 : decode cX10_function 22 = .ok (.ireturn, 1) := by decide +kernel
theorem dX10_function_23 : decode cX10_function 23 = .ok (.aload_n 0, 1) := by decide +kernel
theorem dX10_function_24 : decode cX10_function 24 = .ok (.getfield 128, 3) := by decide +kernel
theorem dX10_function_27 : decode cX10_function 27 = .ok (.iconst 4, 1) := by decide +kernel
theorem dX10_function_28 : decode cX10_function 28 = .ok (.if_icmp .ne 6, 3) := by decide +kernel
theorem dX10_function_31 : decode cX10_function 31 = .ok (.bipush (-4), 2) := by decide +kernel
theorem dX10_function_33 : decode cX10_function 33 = .ok (.ireturn, 1) := by decide +kernel
theorem dX10_function_34 : decode cX10_function 34 = .ok (.aload_n 0, 1) := by decide +kernel
theorem dX10_function_35 : decode cX10_function 35 = .ok (.getfield 29, 3) := by decide +kernel
theorem dX10_function_38 : decode cX10_function 38 = .ok (.aload_n 0, 1) := by decide +kernel
theorem dX10_function_39 : decode cX10_function 39 = .ok (.getfield 128, 3) := by decide +kernel
theorem dX10_function_42 : decode cX10_function 42 = .ok (.iload_n 1, 1) := by decide +kernel
theorem dX10_function_43 : decode cX10_function 43 = .ok (.iastore, 1) := by decide +kernel
theorem dX10_function_44 : decode cX10_function 44 = .ok (.aload_n 0, 1) := by decide +kernel
theorem dX10_function_45 : decode cX10_function 45 = .ok (.dup, 1) := by decide +kernel
theorem dX10_function_46 : decode cX10_function 46 = .ok (.getfield 128, 3) := by decide +kernel
theorem dX10_function_49 : decode cX10_function 49 = .ok (.iconst 1, 1) := by decide +kernel
theorem dX10_function_50 : decode cX10_function 50 = .ok (.iadd, 1) := by decide +kernel
theorem dX10_function_51 : decode cX10_function 51 = .ok (.putfield 128, 3) := by decide +kernel
theorem dX10_function_54 : decode cX10_function 54 = .ok (.aload_n 0, 1) := by decide +kernel
theorem dX10_function_55 : decode cX10_function 55 = .ok (.getfield 128, 3) := by decide +kernel
theorem dX10_function_58 : decode cX10_function 58 = .ok (.iconst 1, 1) := by decide +kernel
theorem dX10_function_59 : decode cX10_function 59 = .ok (.isub, 1) := by decide +kernel
theorem dX10_function_60 : decode cX10_function 60 = .ok (.ireturn, 1) := by decide +kernel
theorem dX10_isFunction_0 : decode cX10_isFunction 0 = .ok (.iload_n 1, 1) := by decide +kernel
theorem dX10_isFunction_1 : decode cX10_isFunction 1 = .ok (.ifCond .lt 15, 3) := by decide +kernel
theorem dX10_isFunction_4 : decode cX10_isFunction 4 = .ok (.iload_n 1, 1) := by decide +kernel
theorem dX10_isFunction_5 : decode cX10_isFunction 5 = .ok (.aload_n 0, 1) := by decide +kernel
theorem dX10_isFunction_6 : decode cX10_isFunction 6 = .ok (.getfield 128, 3) := by decide +kernel
theorem dX10_isFunction_9 : decode cX10_isFunction 9 = .ok (.if_icmp .ge 7, 3) := by decide +kernel
theorem dX10_isFunction_12 : decode cX10_isFunction 12 = .ok (.iconst 1, 1) := by decide +kernel
theorem dX10_isFunction_13 : decode cX10_isFunction 13 = .ok (.goto 4, 3) := by decide +kernel
theorem dX10_isFunction_16 : decode cX10_isFunction 16 = .ok (.iconst 0, 1) := by decide +kernel
theorem dX10_isFunction_17 : decode cX10_isFunction 17 = .ok (.ireturn, 1) := by decide +kernel
theorem dX10_isHandler_0 : decode cX10_isHandler 0 = .ok (.iload_n 1, 1) := by decide +kernel
theorem dX10_isHandler_1 : decode cX10_isHandler 1 = .ok (.ifCond .lt 15, 3) := by decide +kernel
theorem dX10_isHandler_4 : decode cX10_isHandler 4 = .ok (.iload_n 1, 1) := by decide +kernel
theorem dX10_isHandler_5 : decode cX10_isHandler 5 = .ok (.aload_n 0, 1) := by decide +kernel
theorem dX10_isHandler_6 : decode cX10_isHandler 6 = .ok (.getfield 131, 3) := by decide +kernel
theorem dX10_isHandler_9 : decode cX10_isHandler 9 = .ok (.if_icmp .ge 7, 3) := by decide +kernel
theorem dX10_isHandler_12 : decode cX10_isHandler 12 = .ok (.iconst 1, 1) := by decide +kernel
theorem dX10_isHandler_13 : decode cX10_isHandler 13 = .ok (.goto 4, 3) := by decide +kernel
theorem dX10_isHandler_16 : decode cX10_isHandler 16 = .ok (.iconst 0, 1) := by decide +kernel
theorem dX10_isHandler_17 : decode cX10_isHandler 17 = .ok (.ireturn, 1) := by decide +kernel
set_option maxRecDepth 20000 in
theorem ggX10_handler_X10_isFunction : GoodIn wsX10_handler wsX10_isFunction := goodIn_r _ [15, 16, 17, 18, 19, 20, 21, 22, 23, 24, 25, 26, 27, 28, 29, 30, 31, 32, 33, 34, 35, 36, 37, 38, 39, 40, 41, 42, 43, 44, 45, 46, 47, 48, 49, 50, 51, 52, 53, 54, 55] (by decide +kernel) (by decide +kernel)
set_option maxRecDepth 20000 in
theorem gX10_handler_X10_isFunction : GoodIn wsX10_handler (wsV RX10 134 RX10 yX10_isFunction wsX10_isFunction) := goodIn_app (goodIn_of _ (by decide +kernel)) ggX10_handler_X10_isFunction
theorem dX10_handler_0 : decode cX10_handler 0 = .ok (.aload_n 0, 1) := by decide +kernel
theorem dX10_handler_1 : decode cX10_handler 1 = .ok (.iload_n 1, 1) := by decide +kernel
theorem dX10_handler_2 : decode cX10_handler 2 = .ok (.invokevirtual 134, 3) := by decide +kernel
theorem dX10_handler_5 : decode cX10_handler 5 = .ok (.ifCond .eq 13, 3) := by decide +kernel
theorem dX10_handler_8 : decode cX10_handler 8 = .ok (.iload_n 2, 1) := by decide +kernel
theorem dX10_handler_9 : decode cX10_handler 9 = .ok (.ifCond .lt 9, 3) := by decide +kernel
theorem dX10_handler_12 : decode cX10_handler 12 = .ok (.iload_n 2, 1) := by decide +kernel
theorem dX10_handler_13 : decode cX10_handler 13 = .ok (.bipush 7, 2) := by decide +kernel
theorem dX10_handler_15 : decode cX10_handler 15 = .ok (.if_icmp .le 6, 3) := by decide +kernel
theorem dX10_handler_18 : decode cX10_handler 18 = .ok (.bipush (-2), 2) := by decide +kernel
theorem dX10_handler_20 : decode cX10_handler 20 = .ok (.ireturn, 1) := by decide +kernel
theorem dX10_handler_21 : decode cX10_handler 21 = .ok (.aload_n 0, 1) := by decide +kernel
theorem dX10_handler_22 : decode cX10_handler 22 = .ok (.getfield 131, 3) := by decide +kernel
theorem dX10_handler_25 : decode cX10_handler 25 = .ok (.bipush 40, 2) := by decide +kernel
theorem dX10_handler_27 : decode cX10_handler 27 = .ok (.if_icmp .ne 6, 3) := by decide +kernel
theorem dX10_handler_30 : decode cX10_handler 30 = .ok (.bipush (-4), 2) := by decide +kernel
theorem dX10_handler_32 : decode cX10_handler 32 = .ok (.ireturn, 1) := by decide +kernel
theorem dX10_handler_33 : decode cX10_handler 33 = .ok (.aload_n 0, 1) := by decide +kernel
theorem dX10_handler_34 : decode cX10_handler 34 = .ok (.getfield 131, 3) := by decide +kernel
theorem dX10_handler_37 : decode cX10_handler 37 = .ok (.istore 5, 2) := by decide +kernel
theorem dX10_handler_39 : decode cX10_handler 39 = .ok (.aload_n 0, 1) := by decide +kernel
theorem dX10_handler_40 : decode cX10_handler 40 = .ok (.dup, 1) := by decide +kernel
theorem dX10_handler_41 : decode cX10_handler 41 = .ok (.getfield 131, 3) := by decide +kernel
theorem dX10_handler_44 : decode cX10_handler 44 = .ok (.iconst 1, 1) := by decide +kernel
theorem dX10_handler_45 : decode cX10_handler 45 = .ok (.iadd, 1) := by decide +kernel
theorem dX10_handler_46 : decode cX10_handler 46 = .ok (.putfield 131, 3) := by decide +kernel
theorem dX10_handler_49 : decode cX10_handler 49 = .ok (.aload_n 0, 1) := by decide +kernel
theorem dX10_handler_50 : decode cX10_handler 50 = .ok (.getfield 45, 3) := by decide +kernel
theorem dX10_handler_53 : decode cX10_handler 53 = .ok (.iload 5, 2) := by decide +kernel
theorem dX10_handler_55 : decode cX10_handler 55 = .ok (.iload_n 1, 1) := by decide +kernel
theorem dX10_handler_56 : decode cX10_handler 56 = .ok (.iastore, 1) := by decide +kernel
theorem dX10_handler_57 : decode cX10_handler 57 = .ok (.aload_n 0, 1) := by decide +kernel
theorem dX10_handler_58 : decode cX10_handler 58 = .ok (.getfield 48, 3) := by decide +kernel
theorem dX10_handler_61 : decode cX10_handler 61 = .ok (.iload 5, 2) := by decide +kernel
theorem dX10_handler_63 : decode cX10_handler 63 = .ok (.iload_n 2, 1) := by decide +kernel
theorem dX10_handler_64 : decode cX10_handler 64 = .ok (.iastore, 1) := by decide +kernel
theorem dX10_handler_65 : decode cX10_handler 65 = .ok (.aload_n 0, 1) := by decide +kernel
theorem dX10_handler_66 : decode cX10_handler 66 = .ok (.getfield 51, 3) := by decide +kernel
theorem dX10_handler_69 : decode cX10_handler 69 = .ok (.iload 5, 2) := by decide +kernel
theorem dX10_handler_71 : decode cX10_handler 71 = .ok (.iload_n 3, 1) := by decide +kernel
theorem dX10_handler_72 : decode cX10_handler 72 = .ok (.iastore, 1) := by decide +kernel
theorem dX10_handler_73 : decode cX10_handler 73 = .ok (.aload_n 0, 1) := by decide +kernel
theorem dX10_handler_74 : decode cX10_handler 74 = .ok (.getfield 54, 3) := by decide +kernel
theorem dX10_handler_77 : decode cX10_handler 77 = .ok (.iload 5, 2) := by decide +kernel
theorem dX10_handler_79 : decode cX10_handler 79 = .ok (.iload 4, 2) := by decide +kernel
theorem dX10_handler_81 : decode cX10_handler 81 = .ok (.bastore, 1) := by decide +kernel
theorem dX10_handler_82 : decode cX10_handler 82 = .ok (.iconst 0, 1) := by decide +kernel
theorem dX10_handler_83 : decode cX10_handler 83 = .ok (.istore 6, 2) := by decide +kernel
theorem dX10_handler_85 : decode cX10_handler 85 = .ok (.iload 6, 2) := by decide +kernel
theorem dX10_handler_87 : decode cX10_handler 87 = .ok (.iconst 2, 1) := by decide +kernel
theorem dX10_handler_88 : decode cX10_handler 88 = .ok (.if_icmp .ge 50, 3) := by decide +kernel
theorem dX10_handler_91 : decode cX10_handler 91 = .ok (.aload_n 0, 1) := by decide +kernel
theorem dX10_handler_92 : decode cX10_handler 92 = .ok (.getfield 60, 3) := by decide +kernel
theorem dX10_handler_95 : decode cX10_handler 95 = .ok (.iconst 2, 1) := by decide +kernel
theorem dX10_handler_96 : decode cX10_handler 96 = .ok (.iload 5, 2) := by decide +kernel
theorem dX10_handler_98 : decode cX10_handler 98 = .ok (.imul, 1) := by decide +kernel
theorem dX10_handler_99 : decode cX10_handler 99 = .ok (.iload 6, 2) := by decide +kernel
theorem dX10_handler_101 : decode cX10_handler 101 = .ok (.iadd, 1) := by decide +kernel
theorem dX10_handler_102 : decode cX10_handler 102 = .ok (.iconst (-1), 1) := by decide +kernel
theorem dX10_handler_103 : decode cX10_handler 103 = .ok (.iastore, 1) := by decide +kernel
theorem dX10_handler_104 : decode cX10_handler 104 = .ok (.aload_n 0, 1) := by decide +kernel
theorem dX10_handler_105 : decode cX10_handler 105 = .ok (.getfield 63, 3) := by decide +kernel
theorem dX10_handler_108 : decode cX10_handler 108 = .ok (.iconst 2, 1) := by decide +kernel
theorem dX10_handler_109 : decode cX10_handler 109 = .ok (.iload 5, 2) := by decide +kernel
theorem dX10_handler_111 : decode cX10_handler 111 = .ok (.imul, 1) := by decide +kernel
theorem dX10_handler_112 : decode cX10_handler 112 = .ok (.iload 6, 2) := by decide +kernel
theorem dX10_handler_114 : decode cX10_handler 114 = .ok (.iadd, 1) := by decide +kernel
theorem dX10_handler_115 : decode cX10_handler 115 = .ok (.ldc 137, 2) := by decide +kernel
theorem dX10_handler_117 : decode cX10_handler 117 = .ok (.iastore, 1) := by decide +kernel
theorem dX10_handler_118 : decode cX10_handler 118 = .ok (.aload_n 0, 1) := by decide +kernel
theorem dX10_handler_119 : decode cX10_handler 119 = .ok (.getfield 66, 3) := by decide +kernel
theorem dX10_handler_122 : decode cX10_handler 122 = .ok (.iconst 2, 1) := by decide +kernel
theorem dX10_handler_123 : decode cX10_handler 123 = .ok (.iload 5, 2) := by decide +kernel
theorem dX10_handler_125 : decode cX10_handler 125 = .ok (.imul, 1) := by decide +kernel
theorem dX10_handler_126 : decode cX10_handler 126 = .ok (.iload 6, 2) := by decide +kernel
theorem dX10_handler_128 : decode cX10_handler 128 = .ok (.iadd, 1) := by decide +kernel
theorem dX10_handler_129 : decode cX10_handler 129 = .ok (.ldc 138, 2) := by decide +kernel
theorem dX10_handler_131 : decode cX10_handler 131 = .ok (.iastore, 1) := by decide +kernel
theorem dX10_handler_132 : decode cX10_handler 132 = .ok (.iinc 6 1, 3) := by decide +kernel
theorem dX10_handler_135 : decode cX10_handler 135 = .ok (.goto (-50), 3) := by decide +kernel
theorem dX10_handler_138 : decode cX10_handler 138 = .ok (.iload 5, 2) := by decide +kernel
theorem dX10_handler_140 : decode cX10_handler 140 = .ok (.ireturn, 1) := by decide +kernel
set_option maxRecDepth 20000 in
theorem ggX10_hasPlace_X10_isHandler : GoodIn wsX10_hasPlace wsX10_isHandler := goodIn_r _ [7, 8, 9, 10, 11, 12, 13, 14, 15, 16, 17, 18, 19, 20, 21, 22, 23, 24, 25, 26, 27, 28, 29, 30, 31, 32, 33, 34, 35, 36, 37, 38, 39, 40, 41, 42, 43, 44, 45, 46, 47] (by decide +kernel) (by decide +kernel)
set_option maxRecDepth 20000 in
theorem gX10_hasPlace_X10_isHandler : GoodIn wsX10_hasPlace (wsV RX10 139 RX10 yX10_isHandler wsX10_isHandler) := goodIn_app (goodIn_of _ (by decide +kernel)) ggX10_hasPlace_X10_isHandler
theorem dX10_hasPlace_0 : decode cX10_hasPlace 0 = .ok (.aload_n 0, 1) := by decide +kernel
theorem dX10_hasPlace_1 : decode cX10_hasPlace 1 = .ok (.iload_n 1, 1) := by decide +kernel
theorem dX10_hasPlace_2 : decode cX10_hasPlace 2 = .ok (.invokevirtual 139, 3) := by decide +kernel
theorem dX10_hasPlace_5 : decode cX10_hasPlace 5 = .ok (.ifCond .eq 26, 3) := by decide +kernel
theorem dX10_hasPlace_8 : decode cX10_hasPlace 8 = .ok (.iload_n 2, 1) := by decide +kernel
theorem dX10_hasPlace_9 : decode cX10_hasPlace 9 = .ok (.ifCond .lt 22, 3) := by decide +kernel
theorem dX10_hasPlace_12 : decode cX10_hasPlace 12 = .ok (.iload_n 2, 1) := by decide +kernel
theorem dX10_hasPlace_13 : decode cX10_hasPlace 13 = .ok (.aload_n 0, 1) := by decide +kernel
theorem dX10_hasPlace_14 : decode cX10_hasPlace 14 = .ok (.getfield 29, 3) := by decide +kernel
theorem dX10_hasPlace_17 : decode cX10_hasPlace 17 = .ok (.aload_n 0, 1) := by decide +kernel
theorem dX10_hasPlace_18 : decode cX10_hasPlace 18 = .ok (.getfield 45, 3) := by decide +kernel
theorem dX10_hasPlace_21 : decode cX10_hasPlace 21 = .ok (.iload_n 1, 1) := by decide +kernel
theorem dX10_hasPlace_22 : decode cX10_hasPlace 22 = .ok (.iaload, 1) := by decide +kernel
theorem dX10_hasPlace_23 : decode cX10_hasPlace 23 = .ok (.iaload, 1) := by decide +kernel
theorem dX10_hasPlace_24 : decode cX10_hasPlace 24 = .ok (.if_icmp .ge 7, 3) := by decide +kernel
theorem dX10_hasPlace_27 : decode cX10_hasPlace 27 = .ok (.iconst 1, 1) := by decide +kernel
theorem dX10_hasPlace_28 : decode cX10_hasPlace 28 = .ok (.goto 4, 3) := by decide +kernel
theorem dX10_hasPlace_31 : decode cX10_hasPlace 31 = .ok (.iconst 0, 1) := by decide +kernel
theorem dX10_hasPlace_32 : decode cX10_hasPlace 32 = .ok (.ireturn, 1) := by decide +kernel
set_option maxRecDepth 20000 in
theorem ggX10_place_X10_hasPlace : GoodIn wsX10_place wsX10_hasPlace := goodIn_r _ [7, 8, 9, 10, 11, 12, 6, 13, 14, 15, 16, 17, 18, 19, 20, 21, 22, 23, 24, 25, 26, 27, 28, 29, 30, 31, 32, 33, 34, 35, 36, 37, 38, 39, 40, 41, 42, 43, 44, 45, 46, 47, 48, 49, 50, 51, 52, 53] (by decide +kernel) (by decide +kernel)
set_option maxRecDepth 20000 in
theorem gX10_place_X10_hasPlace : GoodIn wsX10_place (wsV RX10 142 RX10 yX10_hasPlace wsX10_hasPlace) := goodIn_app (goodIn_of _ (by decide +kernel)) ggX10_place_X10_hasPlace
theorem dX10_place_0 : decode cX10_place 0 = .ok (.aload_n 0, 1) := by decide +kernel
theorem dX10_place_1 : decode cX10_place 1 = .ok (.iload_n 1, 1) := by decide +kernel
theorem dX10_place_2 : decode cX10_place 2 = .ok (.iload_n 2, 1) := by decide +kernel
theorem dX10_place_3 : decode cX10_place 3 = .ok (.invokevirtual 142, 3) := by decide +kernel
theorem dX10_place_6 : decode cX10_place 6 = .ok (.ifCond .eq 14, 3) := by decide +kernel
theorem dX10_place_9 : decode cX10_place 9 = .ok (.iload_n 3, 1) := by decide +kernel
theorem dX10_place_10 : decode cX10_place 10 = .ok (.iconst (-1), 1) := by decide +kernel
theorem dX10_place_11 : decode cX10_place 11 = .ok (.if_icmp .lt 9, 3) := by decide +kernel
theorem dX10_place_14 : decode cX10_place 14 = .ok (.iload_n 3, 1) := by decide +kernel
theorem dX10_place_15 : decode cX10_place 15 = .ok (.bipush 15, 2) := by decide +kernel
theorem dX10_place_17 : decode cX10_place 17 = .ok (.if_icmp .le 6, 3) := by decide +kernel
theorem dX10_place_20 : decode cX10_place 20 = .ok (.bipush (-2), 2) := by decide +kernel
theorem dX10_place_22 : decode cX10_place 22 = .ok (.ireturn, 1) := by decide +kernel
theorem dX10_place_23 : decode cX10_place 23 = .ok (.aload_n 0, 1) := by decide +kernel
theorem dX10_place_24 : decode cX10_place 24 = .ok (.getfield 57, 3) := by decide +kernel
theorem dX10_place_27 : decode cX10_place 27 = .ok (.iload_n 1, 1) := by decide +kernel
theorem dX10_place_28 : decode cX10_place 28 = .ok (.iaload, 1) := by decide +kernel
theorem dX10_place_29 : decode cX10_place 29 = .ok (.ifCond .eq 6, 3) := by decide +kernel
theorem dX10_place_32 : decode cX10_place 32 = .ok (.bipush (-3), 2) := by decide +kernel
theorem dX10_place_34 : decode cX10_place 34 = .ok (.ireturn, 1) := by decide +kernel
theorem dX10_place_35 : decode cX10_place 35 = .ok (.aload_n 0, 1) := by decide +kernel
theorem dX10_place_36 : decode cX10_place 36 = .ok (.getfield 60, 3) := by decide +kernel
theorem dX10_place_39 : decode cX10_place 39 = .ok (.iconst 2, 1) := by decide +kernel
theorem dX10_place_40 : decode cX10_place 40 = .ok (.iload_n 1, 1) := by decide +kernel
theorem dX10_place_41 : decode cX10_place 41 = .ok (.imul, 1) := by decide +kernel
theorem dX10_place_42 : decode cX10_place 42 = .ok (.iload_n 2, 1) := by decide +kernel
theorem dX10_place_43 : decode cX10_place 43 = .ok (.iadd, 1) := by decide +kernel
theorem dX10_place_44 : decode cX10_place 44 = .ok (.iload_n 3, 1) := by decide +kernel
theorem dX10_place_45 : decode cX10_place 45 = .ok (.iastore, 1) := by decide +kernel
theorem dX10_place_46 : decode cX10_place 46 = .ok (.iconst 1, 1) := by decide +kernel
theorem dX10_place_47 : decode cX10_place 47 = .ok (.ireturn, 1) := by decide +kernel
set_option maxRecDepth 20000 in
theorem ggX10_test_X10_hasPlace : GoodIn wsX10_test wsX10_hasPlace := goodIn_r _ [8, 9, 10, 11, 12, 13, 7, 14, 15, 16, 17, 18, 19, 20, 21, 22, 23, 24, 25, 26, 27, 28, 29, 30, 31, 32, 33, 34, 35, 36, 37, 38, 39, 40, 41, 42, 43, 44, 45, 46, 47, 48, 49, 50, 51, 52, 53, 54] (by decide +kernel) (by decide +kernel)
set_option maxRecDepth 20000 in
theorem gX10_test_X10_hasPlace : GoodIn wsX10_test (wsV RX10 142 RX10 yX10_hasPlace wsX10_hasPlace) := goodIn_app (goodIn_of _ (by decide +kernel)) ggX10_test_X10_hasPlace
theorem dX10_test_0 : decode cX10_test 0 = .ok (.aload_n 0, 1) := by decide +kernel
theorem dX10_test_1 : decode cX10_test 1 = .ok (.iload_n 1, 1) := by decide +kernel
theorem dX10_test_2 : decode cX10_test 2 = .ok (.iload_n 2, 1) := by decide +kernel
theorem dX10_test_3 : decode cX10_test 3 = .ok (.invokevirtual 142, 3) := by decide +kernel
theorem dX10_test_6 : decode cX10_test 6 = .ok (.ifCond .eq 9, 3) := by decide +kernel
theorem dX10_test_9 : decode cX10_test 9 = .ok (.iload_n 3, 1) := by decide +kernel
theorem dX10_test_10 : decode cX10_test 10 = .ok (.iload 4, 2) := by decide +kernel
theorem dX10_test_12 : decode cX10_test 12 = .ok (.if_icmp .le 6, 3) := by decide +kernel
theorem dX10_test_15 : decode cX10_test 15 = .ok (.bipush (-2), 2) := by decide +kernel
theorem dX10_test_17 : decode cX10_test 17 = .ok (.ireturn, 1) := by decide +kernel
theorem dX10_test_18 : decode cX10_test 18 = .ok (.aload_n 0, 1) := by decide +kernel
theorem dX10_test_19 : decode cX10_test 19 = .ok (.getfield 57, 3) := by decide +kernel
theorem dX10_test_22 : decode cX10_test 22 = .ok (.iload_n 1, 1) := by decide +kernel
theorem dX10_test_23 : decode cX10_test 23 = .ok (.iaload, 1) := by decide +kernel
theorem dX10_test_24 : decode cX10_test 24 = .ok (.ifCond .eq 6, 3) := by decide +kernel
theorem dX10_test_27 : decode cX10_test 27 = .ok (.bipush (-3), 2) := by decide +kernel
theorem dX10_test_29 : decode cX10_test 29 = .ok (.ireturn, 1) := by decide +kernel
theorem dX10_test_30 : decode cX10_test 30 = .ok (.aload_n 0, 1) := by decide +kernel
theorem dX10_test_31 : decode cX10_test 31 = .ok (.getfield 63, 3) := by decide +kernel
theorem dX10_test_34 : decode cX10_test 34 = .ok (.iconst 2, 1) := by decide +kernel
theorem dX10_test_35 : decode cX10_test 35 = .ok (.iload_n 1, 1) := by decide +kernel
theorem dX10_test_36 : decode cX10_test 36 = .ok (.imul, 1) := by decide +kernel
theorem dX10_test_37 : decode cX10_test 37 = .ok (.iload_n 2, 1) := by decide +kernel
theorem dX10_test_38 : decode cX10_test 38 = .ok (.iadd, 1) := by decide +kernel
theorem dX10_test_39 : decode cX10_test 39 = .ok (.iload_n 3, 1) := by decide +kernel
theorem dX10_test_40 : decode cX10_test 40 = .ok (.iastore, 1) := by decide +kernel
theorem dX10_test_41 : decode cX10_test 41 = .ok (.aload_n 0, 1) := by decide +kernel
theorem dX10_test_42 : decode cX10_test 42 = .ok (.getfield 66, 3) := by decide +kernel
theorem dX10_test_45 : decode cX10_test 45 = .ok (.iconst 2, 1) := by decide +kernel
theorem dX10_test_46 : decode cX10_test 46 = .ok (.iload_n 1, 1) := by decide +kernel
theorem dX10_test_47 : decode cX10_test 47 = .ok (.imul, 1) := by decide +kernel
theorem dX10_test_48 : decode cX10_test 48 = .ok (.iload_n 2, 1) := by decide +kernel
theorem dX10_test_49 : decode cX10_test 49 = .ok (.iadd, 1) := by decide +kernel
theorem dX10_test_50 : decode cX10_test 50 = .ok (.iload 4, 2) := by decide +kernel
theorem dX10_test_52 : decode cX10_test 52 = .ok (.iastore, 1) := by decide +kernel
theorem dX10_test_53 : decode cX10_test 53 = .ok (.iconst 1, 1) := by decide +kernel
theorem dX10_test_54 : decode cX10_test 54 = .ok (.ireturn, 1) := by decide +kernel
theorem dX10_isLaid_0 : decode cX10_isLaid 0 = .ok (.aload_n 0, 1) := by decide +kernel
theorem dX10_isLaid_1 : decode cX10_isLaid 1 = .ok (.getfield 45, 3) := by decide +kernel
theorem dX10_isLaid_4 : decode cX10_isLaid 4 = .ok (.iload_n 1, 1) := by decide +kernel
theorem dX10_isLaid_5 : decode cX10_isLaid 5 = .ok (.iaload, 1) := by decide +kernel
theorem dX10_isLaid_6 : decode cX10_isLaid 6 = .ok (.iload_n 2, 1) := by decide +kernel
theorem dX10_isLaid_7 : decode cX10_isLaid 7 = .ok (.if_icmp .ne 17, 3) := by decide +kernel
theorem dX10_isLaid_10 : decode cX10_isLaid 10 = .ok (.aload_n 0, 1) := by decide +kernel
theorem dX10_isLaid_11 : decode cX10_isLaid 11 = .ok (.getfield 57, 3) := by decide +kernel
theorem dX10_isLaid_14 : decode cX10_isLaid 14 = .ok (.iload_n 1, 1) := by decide +kernel
theorem dX10_isLaid_15 : decode cX10_isLaid 15 = .ok (.iaload, 1) := by decide +kernel
theorem dX10_isLaid_16 : decode cX10_isLaid 16 = .ok (.iconst 1, 1) := by decide +kernel
theorem dX10_isLaid_17 : decode cX10_isLaid 17 = .ok (.if_icmp .ne 7, 3) := by decide +kernel
theorem dX10_isLaid_20 : decode cX10_isLaid 20 = .ok (.iconst 1, 1) := by decide +kernel
theorem dX10_isLaid_21 : decode cX10_isLaid 21 = .ok (.goto 4, 3) := by decide +kernel
theorem dX10_isLaid_24 : decode cX10_isLaid 24 = .ok (.iconst 0, 1) := by decide +kernel
theorem dX10_isLaid_25 : decode cX10_isLaid 25 = .ok (.ireturn, 1) := by decide +kernel
set_option maxRecDepth 20000 in
theorem ggX10_laid_X10_isLaid : GoodIn wsX10_laid wsX10_isLaid := goodIn_r _ [6, 7, 8, 9, 10, 11, 12, 13, 14, 15, 16, 17, 18, 19, 20, 21, 22, 23, 24, 25, 26, 27, 28, 29, 30, 31, 32, 33, 34, 35, 36, 37, 38, 39, 40, 41, 42, 43, 44, 45, 46, 47] (by decide +kernel) (by decide +kernel)
set_option maxRecDepth 20000 in
theorem gX10_laid_X10_isLaid : GoodIn wsX10_laid (wsV RX10 145 RX10 yX10_isLaid wsX10_isLaid) := goodIn_app (goodIn_of _ (by decide +kernel)) ggX10_laid_X10_isLaid
theorem dX10_laid_0 : decode cX10_laid 0 = .ok (.iconst 0, 1) := by decide +kernel
theorem dX10_laid_1 : decode cX10_laid 1 = .ok (.istore_n 2, 1) := by decide +kernel
theorem dX10_laid_2 : decode cX10_laid 2 = .ok (.iconst 0, 1) := by decide +kernel
theorem dX10_laid_3 : decode cX10_laid 3 = .ok (.istore_n 3, 1) := by decide +kernel
theorem dX10_laid_4 : decode cX10_laid 4 = .ok (.iload_n 3, 1) := by decide +kernel
theorem dX10_laid_5 : decode cX10_laid 5 = .ok (.aload_n 0, 1) := by decide +kernel
theorem dX10_laid_6 : decode cX10_laid 6 = .ok (.getfield 131, 3) := by decide +kernel
theorem dX10_laid_9 : decode cX10_laid 9 = .ok (.if_icmp .ge 26, 3) := by decide +kernel
theorem dX10_laid_12 : decode cX10_laid 12 = .ok (.iload_n 2, 1) := by decide +kernel
theorem dX10_laid_13 : decode cX10_laid 13 = .ok (.aload_n 0, 1) := by decide +kernel
theorem dX10_laid_14 : decode cX10_laid 14 = .ok (.iload_n 3, 1) := by decide +kernel
theorem dX10_laid_15 : decode cX10_laid 15 = .ok (.iload_n 1, 1) := by decide +kernel
theorem dX10_laid_16 : decode cX10_laid 16 = .ok (.invokevirtual 145, 3) := by decide +kernel
theorem dX10_laid_19 : decode cX10_laid 19 = .ok (.ifCond .eq 7, 3) := by decide +kernel
theorem dX10_laid_22 : decode cX10_laid 22 = .ok (.iconst 1, 1) := by decide +kernel
theorem dX10_laid_23 : decode cX10_laid 23 = .ok (.goto 4, 3) := by decide +kernel
theorem dX10_laid_26 : decode cX10_laid 26 = .ok (.iconst 0, 1) := by decide +kernel
theorem dX10_laid_27 : decode cX10_laid 27 = .ok (.iadd, 1) := by decide +kernel
theorem dX10_laid_28 : decode cX10_laid 28 = .ok (.istore_n 2, 1) := by decide +kernel
theorem dX10_laid_29 : decode cX10_laid 29 = .ok (.iinc 3 1, 3) := by decide +kernel
theorem dX10_laid_32 : decode cX10_laid 32 = .ok (.goto (-28), 3) := by decide +kernel
theorem dX10_laid_35 : decode cX10_laid 35 = .ok (.iload_n 2, 1) := by decide +kernel
theorem dX10_laid_36 : decode cX10_laid 36 = .ok (.ireturn, 1) := by decide +kernel
theorem dX10_areSame_0 : decode cX10_areSame 0 = .ok (.aload_n 0, 1) := by decide +kernel
theorem dX10_areSame_1 : decode cX10_areSame 1 = .ok (.getfield 60, 3) := by decide +kernel
theorem dX10_areSame_4 : decode cX10_areSame 4 = .ok (.iconst 2, 1) := by decide +kernel
theorem dX10_areSame_5 : decode cX10_areSame 5 = .ok (.iload_n 1, 1) := by decide +kernel
theorem dX10_areSame_6 : decode cX10_areSame 6 = .ok (.imul, 1) := by decide +kernel
theorem dX10_areSame_7 : decode cX10_areSame 7 = .ok (.iload_n 3, 1) := by decide +kernel
theorem dX10_areSame_8 : decode cX10_areSame 8 = .ok (.iadd, 1) := by decide +kernel
theorem dX10_areSame_9 : decode cX10_areSame 9 = .ok (.iaload, 1) := by decide +kernel
theorem dX10_areSame_10 : decode cX10_areSame 10 = .ok (.aload_n 0, 1) := by decide +kernel
theorem dX10_areSame_11 : decode cX10_areSame 11 = .ok (.getfield 60, 3) := by decide +kernel
theorem dX10_areSame_14 : decode cX10_areSame 14 = .ok (.iconst 2, 1) := by decide +kernel
theorem dX10_areSame_15 : decode cX10_areSame 15 = .ok (.iload_n 2, 1) := by decide +kernel
theorem dX10_areSame_16 : decode cX10_areSame 16 = .ok (.imul, 1) := by decide +kernel
theorem dX10_areSame_17 : decode cX10_areSame 17 = .ok (.iload_n 3, 1) := by decide +kernel
theorem dX10_areSame_18 : decode cX10_areSame 18 = .ok (.iadd, 1) := by decide +kernel
theorem dX10_areSame_19 : decode cX10_areSame 19 = .ok (.iaload, 1) := by decide +kernel
theorem dX10_areSame_20 : decode cX10_areSame 20 = .ok (.if_icmp .ne 53, 3) := by decide +kernel
theorem dX10_areSame_23 : decode cX10_areSame 23 = .ok (.aload_n 0, 1) := by decide +kernel
theorem dX10_areSame_24 : decode cX10_areSame 24 = .ok (.getfield 63, 3) := by decide +kernel
theorem dX10_areSame_27 : decode cX10_areSame 27 = .ok (.iconst 2, 1) := by decide +kernel
theorem dX10_areSame_28 : decode cX10_areSame 28 = .ok (.iload_n 1, 1) := by decide +kernel
theorem dX10_areSame_29 : decode cX10_areSame 29 = .ok (.imul, 1) := by decide +kernel
theorem dX10_areSame_30 : decode cX10_areSame 30 = .ok (.iload_n 3, 1) := by decide +kernel
theorem dX10_areSame_31 : decode cX10_areSame 31 = .ok (.iadd, 1) := by decide +kernel
theorem dX10_areSame_32 : decode cX10_areSame 32 = .ok (.iaload, 1) := by decide +kernel
theorem dX10_areSame_33 : decode cX10_areSame 33 = .ok (.aload_n 0, 1) := by decide +kernel
theorem dX10_areSame_34 : decode cX10_areSame 34 = .ok (.getfield 63, 3) := by decide +kernel
theorem dX10_areSame_37 : decode cX10_areSame 37 = .ok (.iconst 2, 1) := by decide +kernel
theorem dX10_areSame_38 : decode cX10_areSame 38 = .ok (.iload_n 2, 1) := by decide +kernel
theorem dX10_areSame_39 : decode cX10_areSame 39 = .ok (.imul, 1) := by decide +kernel
theorem dX10_areSame_40 : decode cX10_areSame 40 = .ok (.iload_n 3, 1) := by decide +kernel
theorem dX10_areSame_41 : decode cX10_areSame 41 = .ok (.iadd, 1) := by decide +kernel
theorem dX10_areSame_42 : decode cX10_areSame 42 = .ok (.iaload, 1) := by decide +kernel
theorem dX10_areSame_43 : decode cX10_areSame 43 = .ok (.if_icmp .ne 30, 3) := by decide +kernel
theorem dX10_areSame_46 : decode cX10_areSame 46 = .ok (.aload_n 0, 1) := by decide +kernel
theorem dX10_areSame_47 : decode cX10_areSame 47 = .ok (.getfield 66, 3) := by decide +kernel
theorem dX10_areSame_50 : decode cX10_areSame 50 = .ok (.iconst 2, 1) := by decide +kernel
theorem dX10_areSame_51 : decode cX10_areSame 51 = .ok (.iload_n 1, 1) := by decide +kernel
theorem dX10_areSame_52 : decode cX10_areSame 52 = .ok (.imul, 1) := by decide +kernel
theorem dX10_areSame_53 : decode cX10_areSame 53 = .ok (.iload_n 3, 1) := by decide +kernel
theorem dX10_areSame_54 : decode cX10_areSame 54 = .ok (.iadd, 1) := by decide +kernel
theorem dX10_areSame_55 : decode cX10_areSame 55 = .ok (.iaload, 1) := by decide +kernel
theorem dX10_areSame_56 : decode cX10_areSame 56 = .ok (.aload_n 0, 1) := by decide +kernel
theorem dX10_areSame_57 : decode cX10_areSame 57 = .ok (.getfield 66, 3) := by decide +kernel
theorem dX10_areSame_60 : decode cX10_areSame 60 = .ok (.iconst 2, 1) := by decide +kernel
theorem dX10_areSame_61 : decode cX10_areSame 61 = .ok (.iload_n 2, 1) := by decide +kernel
theorem dX10_areSame_62 : decode cX10_areSame 62 = .ok (.imul, 1) := by decide +kernel
theorem dX10_areSame_63 : decode cX10_areSame 63 = .ok (.iload_n 3, 1) := by decide +kernel
theorem dX10_areSame_64 : decode cX10_areSame 64 = .ok (.iadd, 1) := by decide +kernel
theorem dX10_areSame_65 : decode cX10_areSame 65 = .ok (.iaload, 1) := by decide +kernel
theorem dX10_areSame_66 : decode cX10_areSame 66 = .ok (.if_icmp .ne 7, 3) := by decide +kernel
theorem dX10_areSame_69 : decode cX10_areSame 69 = .ok (.iconst 1, 1) := by decide +kernel
theorem dX10_areSame_70 : decode cX10_areSame 70 = .ok (.goto 4, 3) := by decide +kernel
theorem dX10_areSame_73 : decode cX10_areSame 73 = .ok (.iconst 0, 1) := by decide +kernel
theorem dX10_areSame_74 : decode cX10_areSame 74 = .ok (.ireturn, 1) := by decide +kernel
set_option maxRecDepth 20000 in
theorem ggX10_isNarrower_X10_isBelow : GoodIn wsX10_isNarrower wsX10_isBelow := goodIn_r _ [8, 9, 14, 15, 16, 17, 18, 19, 20, 21, 22, 23, 24, 25, 26, 27, 28, 29, 30, 31, 32, 33, 34, 35, 36, 37, 38, 39, 40, 41, 42, 43, 44, 45, 46, 47, 48, 49, 50, 51, 52] (by decide +kernel) (by decide +kernel)
set_option maxRecDepth 20000 in
theorem gX10_isNarrower_X10_isBelow : GoodIn wsX10_isNarrower (wsV RX10 121 RX10 yX10_isBelow wsX10_isBelow) := goodIn_app (goodIn_of _ (by decide +kernel)) ggX10_isNarrower_X10_isBelow
set_option maxRecDepth 20000 in
theorem ggX10_isNarrower_X10_areSame : GoodIn wsX10_isNarrower wsX10_areSame := goodIn_r _ [13, 1, 2, 3, 14, 15, 16, 17, 18, 19, 20, 21, 22, 23, 24, 25, 26, 27, 28, 29, 30, 31, 32, 33, 34, 35, 36, 37, 38, 39, 40, 41, 42, 43, 44, 45, 46, 47, 48, 49, 50, 51, 52] (by decide +kernel) (by decide +kernel)
set_option maxRecDepth 20000 in
theorem gX10_isNarrower_X10_areSame : GoodIn wsX10_isNarrower (wsV RX10 148 RX10 yX10_areSame wsX10_areSame) := goodIn_app (goodIn_of _ (by decide +kernel)) ggX10_isNarrower_X10_areSame
theorem dX10_isNarrower_0 : decode cX10_isNarrower 0 = .ok (.aload_n 0, 1) := by decide +kernel
theorem dX10_isNarrower_1 : decode cX10_isNarrower 1 = .ok (.getfield 60, 3) := by decide +kernel
theorem dX10_isNarrower_4 : decode cX10_isNarrower 4 = .ok (.iconst 2, 1) := by decide +kernel
theorem dX10_isNarrower_5 : decode cX10_isNarrower 5 = .ok (.iload_n 1, 1) := by decide +kernel
theorem dX10_isNarrower_6 : decode cX10_isNarrower 6 = .ok (.imul, 1) := by decide +kernel
theorem dX10_isNarrower_7 : decode cX10_isNarrower 7 = .ok (.iload_n 3, 1) := by decide +kernel
theorem dX10_isNarrower_8 : decode cX10_isNarrower 8 = .ok (.iadd, 1) := by decide +kernel
theorem dX10_isNarrower_9 : decode cX10_isNarrower 9 = .ok (.iaload, 1) := by decide +kernel
theorem dX10_isNarrower_10 : decode cX10_isNarrower 10 = .ok (.istore 4, 2) := by decide +kernel
theorem dX10_isNarrower_12 : decode cX10_isNarrower 12 = .ok (.aload_n 0, 1) := by decide +kernel
theorem dX10_isNarrower_13 : decode cX10_isNarrower 13 = .ok (.getfield 60, 3) := by decide +kernel
theorem dX10_isNarrower_16 : decode cX10_isNarrower 16 = .ok (.iconst 2, 1) := by decide +kernel
theorem dX10_isNarrower_17 : decode cX10_isNarrower 17 = .ok (.iload_n 2, 1) := by decide +kernel
theorem dX10_isNarrower_18 : decode cX10_isNarrower 18 = .ok (.imul, 1) := by decide +kernel
theorem dX10_isNarrower_19 : decode cX10_isNarrower 19 = .ok (.iload_n 3, 1) := by decide +kernel
theorem dX10_isNarrower_20 : decode cX10_isNarrower 20 = .ok (.iadd, 1) := by decide +kernel
theorem dX10_isNarrower_21 : decode cX10_isNarrower 21 = .ok (.iaload, 1) := by decide +kernel
theorem dX10_isNarrower_22 : decode cX10_isNarrower 22 = .ok (.istore 5, 2) := by decide +kernel
theorem dX10_isNarrower_24 : decode cX10_isNarrower 24 = .ok (.iload 4, 2) := by decide +kernel
theorem dX10_isNarrower_26 : decode cX10_isNarrower 26 = .ok (.iload 5, 2) := by decide +kernel
theorem dX10_isNarrower_28 : decode cX10_isNarrower 28 = .ok (.if_icmp .eq 32, 3) := by decide +kernel
theorem dX10_isNarrower_31 : decode cX10_isNarrower 31 = .ok (.iload 4, 2) := by decide +kernel
theorem dX10_isNarrower_33 : decode cX10_isNarrower 33 = .ok (.iconst (-1), 1) := by decide +kernel
theorem dX10_isNarrower_34 : decode cX10_isNarrower 34 = .ok (.if_icmp .eq 24, 3) := by decide +kernel
theorem dX10_isNarrower_37 : decode cX10_isNarrower 37 = .ok (.iload 5, 2) := by decide +kernel
theorem dX10_isNarrower_39 : decode cX10_isNarrower 39 = .ok (.iconst (-1), 1) := by decide +kernel
theorem dX10_isNarrower_40 : decode cX10_isNarrower 40 = .ok (.if_icmp .eq 14, 3) := by decide +kernel
theorem dX10_isNarrower_43 : decode cX10_isNarrower 43 = .ok (.aload_n 0, 1) := by decide +kernel
theorem dX10_isNarrower_44 : decode cX10_isNarrower 44 = .ok (.iload 4, 2) := by decide +kernel
theorem dX10_isNarrower_46 : decode cX10_isNarrower 46 = .ok (.iload 5, 2) := by decide +kernel
theorem dX10_isNarrower_48 : decode cX10_isNarrower 48 = .ok (.invokevirtual 121, 3) := by decide +kernel
theorem dX10_isNarrower_51 : decode cX10_isNarrower 51 = .ok (.ifCond .eq 7, 3) := by decide +kernel
theorem dX10_isNarrower_54 : decode cX10_isNarrower 54 = .ok (.iconst 1, 1) := by decide +kernel
theorem dX10_isNarrower_55 : decode cX10_isNarrower 55 = .ok (.goto 4, 3) := by decide +kernel
theorem dX10_isNarrower_58 : decode cX10_isNarrower 58 = .ok (.iconst 0, 1) := by decide +kernel
theorem dX10_isNarrower_59 : decode cX10_isNarrower 59 = .ok (.ireturn, 1) := by decide +kernel
theorem dX10_isNarrower_60 : decode cX10_isNarrower 60 = .ok (.aload_n 0, 1) := by decide +kernel
theorem dX10_isNarrower_61 : decode cX10_isNarrower 61 = .ok (.getfield 63, 3) := by decide +kernel
theorem dX10_isNarrower_64 : decode cX10_isNarrower 64 = .ok (.iconst 2, 1) := by decide +kernel
theorem dX10_isNarrower_65 : decode cX10_isNarrower 65 = .ok (.iload_n 1, 1) := by decide +kernel
theorem dX10_isNarrower_66 : decode cX10_isNarrower 66 = .ok (.imul, 1) := by decide +kernel
theorem dX10_isNarrower_67 : decode cX10_isNarrower 67 = .ok (.iload_n 3, 1) := by decide +kernel
theorem dX10_isNarrower_68 : decode cX10_isNarrower 68 = .ok (.iadd, 1) := by decide +kernel
theorem dX10_isNarrower_69 : decode cX10_isNarrower 69 = .ok (.iaload, 1) := by decide +kernel
theorem dX10_isNarrower_70 : decode cX10_isNarrower 70 = .ok (.aload_n 0, 1) := by decide +kernel
theorem dX10_isNarrower_71 : decode cX10_isNarrower 71 = .ok (.getfield 63, 3) := by decide +kernel
theorem dX10_isNarrower_74 : decode cX10_isNarrower 74 = .ok (.iconst 2, 1) := by decide +kernel
theorem dX10_isNarrower_75 : decode cX10_isNarrower 75 = .ok (.iload_n 2, 1) := by decide +kernel
theorem dX10_isNarrower_76 : decode cX10_isNarrower 76 = .ok (.imul, 1) := by decide +kernel
theorem dX10_isNarrower_77 : decode cX10_isNarrower 77 = .ok (.iload_n 3, 1) := by decide +kernel
theorem dX10_isNarrower_78 : decode cX10_isNarrower 78 = .ok (.iadd, 1) := by decide +kernel
theorem dX10_isNarrower_79 : decode cX10_isNarrower 79 = .ok (.iaload, 1) := by decide +kernel
theorem dX10_isNarrower_80 : decode cX10_isNarrower 80 = .ok (.if_icmp .lt 40, 3) := by decide +kernel
theorem dX10_isNarrower_83 : decode cX10_isNarrower 83 = .ok (.aload_n 0, 1) := by decide +kernel
theorem dX10_isNarrower_84 : decode cX10_isNarrower 84 = .ok (.getfield 66, 3) := by decide +kernel
theorem dX10_isNarrower_87 : decode cX10_isNarrower 87 = .ok (.iconst 2, 1) := by decide +kernel
theorem dX10_isNarrower_88 : decode cX10_isNarrower 88 = .ok (.iload_n 1, 1) := by decide +kernel
theorem dX10_isNarrower_89 : decode cX10_isNarrower 89 = .ok (.imul, 1) := by decide +kernel
theorem dX10_isNarrower_90 : decode cX10_isNarrower 90 = .ok (.iload_n 3, 1) := by decide +kernel
theorem dX10_isNarrower_91 : decode cX10_isNarrower 91 = .ok (.iadd, 1) := by decide +kernel
theorem dX10_isNarrower_92 : decode cX10_isNarrower 92 = .ok (.iaload, 1) := by decide +kernel
theorem dX10_isNarrower_93 : decode cX10_isNarrower 93 = .ok (.aload_n 0, 1) := by decide +kernel
theorem dX10_isNarrower_94 : decode cX10_isNarrower 94 = .ok (.getfield 66, 3) := by decide +kernel
theorem dX10_isNarrower_97 : decode cX10_isNarrower 97 = .ok (.iconst 2, 1) := by decide +kernel
theorem dX10_isNarrower_98 : decode cX10_isNarrower 98 = .ok (.iload_n 2, 1) := by decide +kernel
theorem dX10_isNarrower_99 : decode cX10_isNarrower 99 = .ok (.imul, 1) := by decide +kernel
theorem dX10_isNarrower_100 : decode cX10_isNarrower 100 = .ok (.iload_n 3, 1) := by decide +kernel
theorem dX10_isNarrower_101 : decode cX10_isNarrower 101 = .ok (.iadd, 1) := by decide +kernel
theorem dX10_isNarrower_102 : decode cX10_isNarrower 102 = .ok (.iaload, 1) := by decide +kernel
theorem dX10_isNarrower_103 : decode cX10_isNarrower 103 = .ok (.if_icmp .gt 17, 3) := by decide +kernel
theorem dX10_isNarrower_106 : decode cX10_isNarrower 106 = .ok (.aload_n 0, 1) := by decide +kernel
theorem dX10_isNarrower_107 : decode cX10_isNarrower 107 = .ok (.iload_n 1, 1) := by decide +kernel
theorem dX10_isNarrower_108 : decode cX10_isNarrower 108 = .ok (.iload_n 2, 1) := by decide +kernel
theorem dX10_isNarrower_109 : decode cX10_isNarrower 109 = .ok (.iload_n 3, 1) := by decide +kernel
theorem dX10_isNarrower_110 : decode cX10_isNarrower 110 = .ok (.invokevirtual 148, 3) := by decide +kernel
theorem dX10_isNarrower_113 : decode cX10_isNarrower 113 = .ok (.ifCond .ne 7, 3) := by decide +kernel
theorem dX10_isNarrower_116 : decode cX10_isNarrower 116 = .ok (.iconst 1, 1) := by decide +kernel
theorem dX10_isNarrower_117 : decode cX10_isNarrower 117 = .ok (.goto 4, 3) := by decide +kernel
theorem dX10_isNarrower_120 : decode cX10_isNarrower 120 = .ok (.iconst 0, 1) := by decide +kernel
theorem dX10_isNarrower_121 : decode cX10_isNarrower 121 = .ok (.ireturn, 1) := by decide +kernel
set_option maxRecDepth 20000 in
theorem ggX10_isMore_X10_isNarrower : GoodIn wsX10_isMore wsX10_isNarrower := goodIn_r _ [7, 8, 9, 10, 11, 12, 13, 6, 14, 15, 16, 17, 18, 19, 20, 21, 22, 23, 24, 25, 26, 27, 28, 29, 30, 31, 32, 33, 34, 35, 36, 37, 38, 39, 40, 41, 42, 43, 44, 45, 46, 47, 48, 49, 50, 51, 52, 53, 54, 55, 56, 57, 58] (by decide +kernel) (by decide +kernel)
set_option maxRecDepth 20000 in
theorem gX10_isMore_X10_isNarrower : GoodIn wsX10_isMore (wsV RX10 152 RX10 yX10_isNarrower wsX10_isNarrower) := goodIn_app (goodIn_of _ (by decide +kernel)) ggX10_isMore_X10_isNarrower
set_option maxRecDepth 20000 in
theorem ggX10_isMore_X10_areSame : GoodIn wsX10_isMore wsX10_areSame := goodIn_r _ [19, 8, 9, 10, 20, 21, 22, 23, 24, 25, 26, 27, 28, 29, 30, 31, 32, 33, 34, 35, 36, 37, 38, 39, 40, 41, 42, 43, 44, 45, 46, 47, 48, 49, 50, 51, 52, 53, 54, 55, 56, 57, 58] (by decide +kernel) (by decide +kernel)
set_option maxRecDepth 20000 in
theorem gX10_isMore_X10_areSame : GoodIn wsX10_isMore (wsV RX10 148 RX10 yX10_areSame wsX10_areSame) := goodIn_app (goodIn_of _ (by decide +kernel)) ggX10_isMore_X10_areSame
theorem dX10_isMore_0 : decode cX10_isMore 0 = .ok (.aload_n 0, 1) := by decide +kernel
theorem dX10_isMore_1 : decode cX10_isMore 1 = .ok (.getfield 45, 3) := by decide +kernel
theorem dX10_isMore_4 : decode cX10_isMore 4 = .ok (.iload_n 1, 1) := by decide +kernel
theorem dX10_isMore_5 : decode cX10_isMore 5 = .ok (.iaload, 1) := by decide +kernel
theorem dX10_isMore_6 : decode cX10_isMore 6 = .ok (.aload_n 0, 1) := by decide +kernel
theorem dX10_isMore_7 : decode cX10_isMore 7 = .ok (.getfield 45, 3) := by decide +kernel
theorem dX10_isMore_10 : decode cX10_isMore 10 = .ok (.iload_n 2, 1) := by decide +kernel
theorem dX10_isMore_11 : decode cX10_isMore 11 = .ok (.iaload, 1) := by decide +kernel
theorem dX10_isMore_12 : decode cX10_isMore 12 = .ok (.if_icmp .ne 7, 3) := by decide +kernel
theorem dX10_isMore_15 : decode cX10_isMore 15 = .ok (.iconst 1, 1) := by decide +kernel
theorem dX10_isMore_16 : decode cX10_isMore 16 = .ok (.goto 4, 3) := by decide +kernel
theorem dX10_isMore_19 : decode cX10_isMore 19 = .ok (.iconst 0, 1) := by decide +kernel
theorem dX10_isMore_20 : decode cX10_isMore 20 = .ok (.istore_n 3, 1) := by decide +kernel
theorem dX10_isMore_21 : decode cX10_isMore 21 = .ok (.iconst 0, 1) := by decide +kernel
theorem dX10_isMore_22 : decode cX10_isMore 22 = .ok (.istore 4, 2) := by decide +kernel
theorem dX10_isMore_24 : decode cX10_isMore 24 = .ok (.iconst 0, 1) := by decide +kernel
theorem dX10_isMore_25 : decode cX10_isMore 25 = .ok (.istore 5, 2) := by decide +kernel
theorem dX10_isMore_27 : decode cX10_isMore 27 = .ok (.iload 5, 2) := by decide +kernel
theorem dX10_isMore_29 : decode cX10_isMore 29 = .ok (.aload_n 0, 1) := by decide +kernel
theorem dX10_isMore_30 : decode cX10_isMore 30 = .ok (.getfield 29, 3) := by decide +kernel
theorem dX10_isMore_33 : decode cX10_isMore 33 = .ok (.aload_n 0, 1) := by decide +kernel
theorem dX10_isMore_34 : decode cX10_isMore 34 = .ok (.getfield 45, 3) := by decide +kernel
theorem dX10_isMore_37 : decode cX10_isMore 37 = .ok (.iload_n 1, 1) := by decide +kernel
theorem dX10_isMore_38 : decode cX10_isMore 38 = .ok (.iaload, 1) := by decide +kernel
theorem dX10_isMore_39 : decode cX10_isMore 39 = .ok (.iaload, 1) := by decide +kernel
theorem dX10_isMore_40 : decode cX10_isMore 40 = .ok (.if_icmp .ge 62, 3) := by decide +kernel
theorem dX10_isMore_43 : decode cX10_isMore 43 = .ok (.aload_n 0, 1) := by decide +kernel
theorem dX10_isMore_44 : decode cX10_isMore 44 = .ok (.iload_n 1, 1) := by decide +kernel
theorem dX10_isMore_45 : decode cX10_isMore 45 = .ok (.iload_n 2, 1) := by decide +kernel
theorem dX10_isMore_46 : decode cX10_isMore 46 = .ok (.iload 5, 2) := by decide +kernel
theorem dX10_isMore_48 : decode cX10_isMore 48 = .ok (.invokevirtual 152, 3) := by decide +kernel
theorem dX10_isMore_51 : decode cX10_isMore 51 = .ok (.istore 6, 2) := by decide +kernel
theorem dX10_isMore_53 : decode cX10_isMore 53 = .ok (.iload 4, 2) := by decide +kernel
theorem dX10_isMore_55 : decode cX10_isMore 55 = .ok (.ifCond .ne 8, 3) := by decide +kernel
theorem dX10_isMore_58 : decode cX10_isMore 58 = .ok (.iload 6, 2) := by decide +kernel
theorem dX10_isMore_60 : decode cX10_isMore 60 = .ok (.ifCond .eq 7, 3) := by decide +kernel
theorem dX10_isMore_63 : decode cX10_isMore 63 = .ok (.iconst 1, 1) := by decide +kernel
theorem dX10_isMore_64 : decode cX10_isMore 64 = .ok (.goto 4, 3) := by decide +kernel
theorem dX10_isMore_67 : decode cX10_isMore 67 = .ok (.iconst 0, 1) := by decide +kernel
theorem dX10_isMore_68 : decode cX10_isMore 68 = .ok (.istore 4, 2) := by decide +kernel
theorem dX10_isMore_70 : decode cX10_isMore 70 = .ok (.iload_n 3, 1) := by decide +kernel
theorem dX10_isMore_71 : decode cX10_isMore 71 = .ok (.ifCond .eq 23, 3) := by decide +kernel
theorem dX10_isMore_74 : decode cX10_isMore 74 = .ok (.iload 6, 2) := by decide +kernel
theorem dX10_isMore_76 : decode cX10_isMore 76 = .ok (.ifCond .ne 14, 3) := by decide +kernel
theorem dX10_isMore_79 : decode cX10_isMore 79 = .ok (.aload_n 0, 1) := by decide +kernel
theorem dX10_isMore_80 : decode cX10_isMore 80 = .ok (.iload_n 1, 1) := by decide +kernel
theorem dX10_isMore_81 : decode cX10_isMore 81 = .ok (.iload_n 2, 1) := by decide +kernel
theorem dX10_isMore_82 : decode cX10_isMore 82 = .ok (.iload 5, 2) := by decide +kernel
theorem dX10_isMore_84 : decode cX10_isMore 84 = .ok (.invokevirtual 148, 3) := by decide +kernel
theorem dX10_isMore_87 : decode cX10_isMore 87 = .ok (.ifCond .eq 7, 3) := by decide +kernel
theorem dX10_isMore_90 : decode cX10_isMore 90 = .ok (.iconst 1, 1) := by decide +kernel
theorem dX10_isMore_91 : decode cX10_isMore 91 = .ok (.goto 4, 3) := by decide +kernel
