theorem dX12_init_0 : decode cX12_init 0 = .ok (.aload_n 0, 1) := by decide +kernel
theorem dX12_init_1 : decode cX12_init 1 = .ok (.invokespecial 1, 3) := by decide +kernel
theorem dX12_init_4 : decode cX12_init 4 = .ok (.aload_n 0, 1) := by decide +kernel
theorem dX12_init_5 : decode cX12_init 5 = .ok (.iconst 2, 1) := by decide +kernel
theorem dX12_init_6 : decode cX12_init 6 = .ok (.newarray .int, 2) := by decide +kernel
theorem dX12_init_8 : decode cX12_init 8 = .ok (.putfield 7, 3) := by decide +kernel
theorem dX12_init_11 : decode cX12_init 11 = .ok (.aload_n 0, 1) := by decide +kernel
theorem dX12_init_12 : decode cX12_init 12 = .ok (.iconst 2, 1) := by decide +kernel
theorem dX12_init_13 : decode cX12_init 13 = .ok (.newarray .int, 2) := by decide +kernel
theorem dX12_init_15 : decode cX12_init 15 = .ok (.putfield 13, 3) := by decide +kernel
theorem dX12_init_18 : decode cX12_init 18 = .ok (.aload_n 0, 1) := by decide +kernel
theorem dX12_init_19 : decode cX12_init 19 = .ok (.iconst 2, 1) := by decide +kernel
theorem dX12_init_20 : decode cX12_init 20 = .ok (.newarray .int, 2) := by decide +kernel
theorem dX12_init_22 : decode cX12_init 22 = .ok (.putfield 16, 3) := by decide +kernel
theorem dX12_init_25 : decode cX12_init 25 = .ok (.aload_n 0, 1) := by decide +kernel
theorem dX12_init_26 : decode cX12_init 26 = .ok (.bipush 24, 2) := by decide +kernel
theorem dX12_init_28 : decode cX12_init 28 = .ok (.newarray .int, 2) := by decide +kernel
theorem dX12_init_30 : decode cX12_init 30 = .ok (.putfield 19, 3) := by decide +kernel
theorem dX12_init_33 : decode cX12_init 33 = .ok (.aload_n 0, 1) := by decide +kernel
theorem dX12_init_34 : decode cX12_init 34 = .ok (.bipush 12, 2) := by decide +kernel
theorem dX12_init_36 : decode cX12_init 36 = .ok (.newarray .int, 2) := by decide +kernel
theorem dX12_init_38 : decode cX12_init 38 = .ok (.putfield 22, 3) := by decide +kernel
theorem dX12_init_41 : decode cX12_init 41 = .ok (.aload_n 0, 1) := by decide +kernel
theorem dX12_init_42 : decode cX12_init 42 = .ok (.bipush 36, 2) := by decide +kernel
theorem dX12_init_44 : decode cX12_init 44 = .ok (.newarray .int, 2) := by decide +kernel
theorem dX12_init_46 : decode cX12_init 46 = .ok (.putfield 25, 3) := by decide +kernel
theorem dX12_init_49 : decode cX12_init 49 = .ok (.aload_n 0, 1) := by decide +kernel
theorem dX12_init_50 : decode cX12_init 50 = .ok (.sipush 160, 3) := by decide +kernel
theorem dX12_init_53 : decode cX12_init 53 = .ok (.newarray .int, 2) := by decide +kernel
theorem dX12_init_55 : decode cX12_init 55 = .ok (.putfield 28, 3) := by decide +kernel
theorem dX12_init_58 : decode cX12_init 58 = .ok (.aload_n 0, 1) := by decide +kernel
theorem dX12_init_59 : decode cX12_init 59 = .ok (.bipush 64, 2) := by decide +kernel
theorem dX12_init_61 : decode cX12_init 61 = .ok (.newarray .int, 2) := by decide +kernel
theorem dX12_init_63 : decode cX12_init 63 = .ok (.putfield 31, 3) := by decide +kernel
theorem dX12_init_66 : decode cX12_init 66 = .ok (.aload_n 0, 1) := by decide +kernel
theorem dX12_init_67 : decode cX12_init 67 = .ok (.bipush 24, 2) := by decide +kernel
theorem dX12_init_69 : decode cX12_init 69 = .ok (.newarray .int, 2) := by decide +kernel
theorem dX12_init_71 : decode cX12_init 71 = .ok (.putfield 34, 3) := by decide +kernel
theorem dX12_init_74 : decode cX12_init 74 = .ok (.aload_n 0, 1) := by decide +kernel
theorem dX12_init_75 : decode cX12_init 75 = .ok (.bipush 24, 2) := by decide +kernel
theorem dX12_init_77 : decode cX12_init 77 = .ok (.newarray .int, 2) := by decide +kernel
theorem dX12_init_79 : decode cX12_init 79 = .ok (.putfield 37, 3) := by decide +kernel
theorem dX12_init_82 : decode cX12_init 82 = .ok (.aload_n 0, 1) := by decide +kernel
theorem dX12_init_83 : decode cX12_init 83 = .ok (.bipush 24, 2) := by decide +kernel
theorem dX12_init_85 : decode cX12_init 85 = .ok (.newarray .int, 2) := by decide +kernel
theorem dX12_init_87 : decode cX12_init 87 = .ok (.putfield 40, 3) := by decide +kernel
theorem dX12_init_90 : decode cX12_init 90 = .ok (.aload_n 0, 1) := by decide +kernel
theorem dX12_init_91 : decode cX12_init 91 = .ok (.bipush 24, 2) := by decide +kernel
theorem dX12_init_93 : decode cX12_init 93 = .ok (.newarray .int, 2) := by decide +kernel
theorem dX12_init_95 : decode cX12_init 95 = .ok (.putfield 43, 3) := by decide +kernel
theorem dX12_init_98 : decode cX12_init 98 = .ok (.aload_n 0, 1) := by decide +kernel
theorem dX12_init_99 : decode cX12_init 99 = .ok (.bipush 24, 2) := by decide +kernel
theorem dX12_init_101 : decode cX12_init 101 = .ok (.newarray .int, 2) := by decide +kernel
theorem dX12_init_103 : decode cX12_init 103 = .ok (.putfield 46, 3) := by decide +kernel
theorem dX12_init_106 : decode cX12_init 106 = .ok (.aload_n 0, 1) := by decide +kernel
theorem dX12_init_107 : decode cX12_init 107 = .ok (.bipush 24, 2) := by decide +kernel
theorem dX12_init_109 : decode cX12_init 109 = .ok (.newarray .int, 2) := by decide +kernel
theorem dX12_init_111 : decode cX12_init 111 = .ok (.putfield 49, 3) := by decide +kernel
theorem dX12_init_114 : decode cX12_init 114 = .ok (.aload_n 0, 1) := by decide +kernel
theorem dX12_init_115 : decode cX12_init 115 = .ok (.iconst 3, 1) := by decide +kernel
theorem dX12_init_116 : decode cX12_init 116 = .ok (.newarray .long, 2) := by decide +kernel
theorem dX12_init_118 : decode cX12_init 118 = .ok (.putfield 52, 3) := by decide +kernel
theorem dX12_init_121 : decode cX12_init 121 = .ok (.aload_n 0, 1) := by decide +kernel
theorem dX12_init_122 : decode cX12_init 122 = .ok (.bipush 9, 2) := by decide +kernel
theorem dX12_init_124 : decode cX12_init 124 = .ok (.newarray .long, 2) := by decide +kernel
theorem dX12_init_126 : decode cX12_init 126 = .ok (.putfield 56, 3) := by decide +kernel
theorem dX12_init_129 : decode cX12_init 129 = .ok (.aload_n 0, 1) := by decide +kernel
theorem dX12_init_130 : decode cX12_init 130 = .ok (.bipush 72, 2) := by decide +kernel
theorem dX12_init_132 : decode cX12_init 132 = .ok (.newarray .long, 2) := by decide +kernel
theorem dX12_init_134 : decode cX12_init 134 = .ok (.putfield 59, 3) := by decide +kernel
theorem dX12_init_137 : decode cX12_init 137 = .ok (.aload_n 0, 1) := by decide +kernel
theorem dX12_init_138 : decode cX12_init 138 = .ok (.sipush 216, 3) := by decide +kernel
theorem dX12_init_141 : decode cX12_init 141 = .ok (.newarray .long, 2) := by decide +kernel
theorem dX12_init_143 : decode cX12_init 143 = .ok (.putfield 62, 3) := by decide +kernel
theorem dX12_init_146 : decode cX12_init 146 = .ok (.aload_n 0, 1) := by decide +kernel
theorem dX12_init_147 : decode cX12_init 147 = .ok (.bipush 9, 2) := by decide +kernel
theorem dX12_init_149 : decode cX12_init 149 = .ok (.newarray .long, 2) := by decide +kernel
theorem dX12_init_151 : decode cX12_init 151 = .ok (.putfield 65, 3) := by decide +kernel
theorem dX12_init_154 : decode cX12_init 154 = .ok (.aload_n 0, 1) := by decide +kernel
theorem dX12_init_155 : decode cX12_init 155 = .ok (.iconst (-1), 1) := by decide +kernel
theorem dX12_init_156 : decode cX12_init 156 = .ok (.putfield 68, 3) := by decide +kernel
theorem dX12_init_159 : decode cX12_init 159 = .ok (.aload_n 0, 1) := by decide +kernel
theorem dX12_init_160 : decode cX12_init 160 = .ok (.bipush 64, 2) := by decide +kernel
theorem dX12_init_162 : decode cX12_init 162 = .ok (.newarray .int, 2) := by decide +kernel
theorem dX12_init_164 : decode cX12_init 164 = .ok (.putfield 72, 3) := by decide +kernel
theorem dX12_init_167 : decode cX12_init 167 = .ok (.aload_n 0, 1) := by decide +kernel
theorem dX12_init_168 : decode cX12_init 168 = .ok (.bipush 64, 2) := by decide +kernel
theorem dX12_init_170 : decode cX12_init 170 = .ok (.newarray .int, 2) := by decide +kernel
theorem dX12_init_172 : decode cX12_init 172 = .ok (.putfield 75, 3) := by decide +kernel
theorem dX12_init_175 : decode cX12_init 175 = .ok (.aload_n 0, 1) := by decide +kernel
theorem dX12_init_176 : decode cX12_init 176 = .ok (.sipush 128, 3) := by decide +kernel
theorem dX12_init_179 : decode cX12_init 179 = .ok (.newarray .int, 2) := by decide +kernel
theorem dX12_init_181 : decode cX12_init 181 = .ok (.putfield 78, 3) := by decide +kernel
theorem dX12_init_184 : decode cX12_init 184 = .ok (.aload_n 0, 1) := by decide +kernel
theorem dX12_init_185 : decode cX12_init 185 = .ok (.sipush 128, 3) := by decide +kernel
theorem dX12_init_188 : decode cX12_init 188 = .ok (.newarray .int, 2) := by decide +kernel
theorem dX12_init_190 : decode cX12_init 190 = .ok (.putfield 81, 3) := by decide +kernel
theorem dX12_init_193 : decode cX12_init 193 = .ok (.aload_n 0, 1) := by decide +kernel
theorem dX12_init_194 : decode cX12_init 194 = .ok (.sipush 128, 3) := by decide +kernel
theorem dX12_init_197 : decode cX12_init 197 = .ok (.newarray .boolean, 2) := by decide +kernel
theorem dX12_init_199 : decode cX12_init 199 = .ok (.putfield 84, 3) := by decide +kernel
theorem dX12_init_202 : decode cX12_init 202 = .ok (.aload_n 0, 1) := by decide +kernel
theorem dX12_init_203 : decode cX12_init 203 = .ok (.sipush 128, 3) := by decide +kernel
theorem dX12_init_206 : decode cX12_init 206 = .ok (.newarray .int, 2) := by decide +kernel
theorem dX12_init_208 : decode cX12_init 208 = .ok (.putfield 88, 3) := by decide +kernel
theorem dX12_init_211 : decode cX12_init 211 = .ok (.aload_n 0, 1) := by decide +kernel
theorem dX12_init_212 : decode cX12_init 212 = .ok (.sipush 832, 3) := by decide +kernel
theorem dX12_init_215 : decode cX12_init 215 = .ok (.newarray .long, 2) := by decide +kernel
theorem dX12_init_217 : decode cX12_init 217 = .ok (.putfield 91, 3) := by decide +kernel
theorem dX12_init_220 : decode cX12_init 220 = .ok (.aload_n 0, 1) := by decide +kernel
theorem dX12_init_221 : decode cX12_init 221 = .ok (.sipush 30720, 3) := by decide +kernel
theorem dX12_init_224 : decode cX12_init 224 = .ok (.newarray .int, 2) := by decide +kernel
theorem dX12_init_226 : decode cX12_init 226 = .ok (.putfield 94, 3) := by decide +kernel
theorem dX12_init_229 : decode cX12_init 229 = .ok (.aload_n 0, 1) := by decide +kernel
theorem dX12_init_230 : decode cX12_init 230 = .ok (.sipush 1664, 3) := by decide +kernel
theorem dX12_init_233 : decode cX12_init 233 = .ok (.newarray .long, 2) := by decide +kernel
theorem dX12_init_235 : decode cX12_init 235 = .ok (.putfield 97, 3) := by decide +kernel
theorem dX12_init_238 : decode cX12_init 238 = .ok (.aload_n 0, 1) := by decide +kernel
theorem dX12_init_239 : decode cX12_init 239 = .ok (.sipush 128, 3) := by decide +kernel
theorem dX12_init_242 : decode cX12_init 242 = .ok (.newarray .int, 2) := by decide +kernel
theorem dX12_init_244 : decode cX12_init 244 = .ok (.putfield 100, 3) := by decide +kernel
theorem dX12_init_247 : decode cX12_init 247 = .ok (.aload_n 0, 1) := by decide +kernel
theorem dX12_init_248 : decode cX12_init 248 = .ok (.sipush 128, 3) := by decide +kernel
theorem dX12_init_251 : decode cX12_init 251 = .ok (.newarray .int, 2) := by decide +kernel
theorem dX12_init_253 : decode cX12_init 253 = .ok (.putfield 103, 3) := by decide +kernel
theorem dX12_init_256 : decode cX12_init 256 = .ok (.aload_n 0, 1) := by decide +kernel
theorem dX12_init_257 : decode cX12_init 257 = .ok (.sipush 128, 3) := by decide +kernel
theorem dX12_init_260 : decode cX12_init 260 = .ok (.newarray .int, 2) := by decide +kernel
theorem dX12_init_262 : decode cX12_init 262 = .ok (.putfield 106, 3) := by decide +kernel
theorem dX12_init_265 : decode cX12_init 265 = .ok (.aload_n 0, 1) := by decide +kernel
theorem dX12_init_266 : decode cX12_init 266 = .ok (.sipush 128, 3) := by decide +kernel
theorem dX12_init_269 : decode cX12_init 269 = .ok (.newarray .int, 2) := by decide +kernel
theorem dX12_init_271 : decode cX12_init 271 = .ok (.putfield 109, 3) := by decide +kernel
theorem dX12_init_274 : decode cX12_init 274 = .ok (.iconst 0, 1) := by decide +kernel
theorem dX12_init_275 : decode cX12_init 275 = .ok (.istore_n 1, 1) := by decide +kernel
theorem dX12_init_276 : decode cX12_init 276 = .ok (.iload_n 1, 1) := by decide +kernel
theorem dX12_init_277 : decode cX12_init 277 = .ok (.iconst 2, 1) := by decide +kernel
theorem dX12_init_278 : decode cX12_init 278 = .ok (.if_icmp .ge 23, 3) := by decide +kernel
theorem dX12_init_281 : decode cX12_init 281 = .ok (.aload_n 0, 1) := by decide +kernel
theorem dX12_init_282 : decode cX12_init 282 = .ok (.getfield 7, 3) := by decide +kernel
theorem dX12_init_285 : decode cX12_init 285 = .ok (.iload_n 1, 1) := by decide +kernel
theorem dX12_init_286 : decode cX12_init 286 = .ok (.iconst 1, 1) := by decide +kernel
theorem dX12_init_287 : decode cX12_init 287 = .ok (.iastore, 1) := by decide +kernel
theorem dX12_init_288 : decode cX12_init 288 = .ok (.aload_n 0, 1) := by decide +kernel
theorem dX12_init_289 : decode cX12_init 289 = .ok (.getfield 13, 3) := by decide +kernel
theorem dX12_init_292 : decode cX12_init 292 = .ok (.iload_n 1, 1) := by decide +kernel
theorem dX12_init_293 : decode cX12_init 293 = .ok (.iconst 1, 1) := by decide +kernel
theorem dX12_init_294 : decode cX12_init 294 = .ok (.iastore, 1) := by decide +kernel
theorem dX12_init_295 : decode cX12_init 295 = .ok (.iinc 1 1, 3) := by decide +kernel
theorem dX12_init_298 : decode cX12_init 298 = .ok (.goto (-22), 3) := by decide +kernel
theorem dX12_init_301 : decode cX12_init 301 = .ok (.return_, 1) := by decide +kernel
theorem dX12_in_0 : decode cX12_in 0 = .ok (.iload_n 0, 1) := by decide +kernel
theorem dX12_in_1 : decode cX12_in 1 = .ok (.iload_n 1, 1) := by decide +kernel
theorem dX12_in_2 : decode cX12_in 2 = .ok (.if_icmp .lt 12, 3) := by decide +kernel
theorem dX12_in_5 : decode cX12_in 5 = .ok (.iload_n 0, 1) := by decide +kernel
theorem dX12_in_6 : decode cX12_in 6 = .ok (.iload_n 2, 1) := by decide +kernel
theorem dX12_in_7 : decode cX12_in 7 = .ok (.if_icmp .gt 7, 3) := by decide +kernel
theorem dX12_in_10 : decode cX12_in 10 = .ok (.iconst 1, 1) := by decide +kernel
theorem dX12_in_11 : decode cX12_in 11 = .ok (.goto 4, 3) := by decide +kernel
theorem dX12_in_14 : decode cX12_in 14 = .ok (.iconst 0, 1) := by decide +kernel
theorem dX12_in_15 : decode cX12_in 15 = .ok (.ireturn, 1) := by decide +kernel
theorem ggX12_isReader_X12_in : GoodIn wsX12_isReader wsX12_in := gdC (gd1 m11_5)
theorem gX12_isReader_X12_in : GoodIn wsX12_isReader (va_wsS RX12 112 yX12_in wsX12_in) := gdC (gd3 m11_3 m11_4 m1_5 m11_5)
theorem dX12_isReader_0 : decode cX12_isReader 0 = .ok (.iload_n 0, 1) := by decide +kernel
theorem dX12_isReader_1 : decode cX12_isReader 1 = .ok (.iconst 0, 1) := by decide +kernel
theorem dX12_isReader_2 : decode cX12_isReader 2 = .ok (.iconst 1, 1) := by decide +kernel
theorem dX12_isReader_3 : decode cX12_isReader 3 = .ok (.invokestatic 112, 3) := by decide +kernel
theorem dX12_isReader_6 : decode cX12_isReader 6 = .ok (.ireturn, 1) := by decide +kernel
theorem dX12_putAt_0 : decode cX12_putAt 0 = .ok (.iconst 2, 1) := by decide +kernel
theorem dX12_putAt_1 : decode cX12_putAt 1 = .ok (.iload_n 0, 1) := by decide +kernel
theorem dX12_putAt_2 : decode cX12_putAt 2 = .ok (.imul, 1) := by decide +kernel
theorem dX12_putAt_3 : decode cX12_putAt 3 = .ok (.iload_n 1, 1) := by decide +kernel
theorem dX12_putAt_4 : decode cX12_putAt 4 = .ok (.iadd, 1) := by decide +kernel
theorem dX12_putAt_5 : decode cX12_putAt 5 = .ok (.iconst 3, 1) := by decide +kernel
theorem dX12_putAt_6 : decode cX12_putAt 6 = .ok (.imul, 1) := by decide +kernel
theorem dX12_putAt_7 : decode cX12_putAt 7 = .ok (.iload_n 2, 1) := by decide +kernel
theorem dX12_putAt_8 : decode cX12_putAt 8 = .ok (.iadd, 1) := by decide +kernel
theorem dX12_putAt_9 : decode cX12_putAt 9 = .ok (.iconst 2, 1) := by decide +kernel
theorem dX12_putAt_10 : decode cX12_putAt 10 = .ok (.imul, 1) := by decide +kernel
theorem dX12_putAt_11 : decode cX12_putAt 11 = .ok (.iload_n 3, 1) := by decide +kernel
theorem dX12_putAt_12 : decode cX12_putAt 12 = .ok (.iadd, 1) := by decide +kernel
theorem dX12_putAt_13 : decode cX12_putAt 13 = .ok (.ireturn, 1) := by decide +kernel
theorem dX12_goAt_0 : decode cX12_goAt 0 = .ok (.iconst 2, 1) := by decide +kernel
theorem dX12_goAt_1 : decode cX12_goAt 1 = .ok (.iload_n 0, 1) := by decide +kernel
theorem dX12_goAt_2 : decode cX12_goAt 2 = .ok (.imul, 1) := by decide +kernel
theorem dX12_goAt_3 : decode cX12_goAt 3 = .ok (.iload_n 1, 1) := by decide +kernel
theorem dX12_goAt_4 : decode cX12_goAt 4 = .ok (.iadd, 1) := by decide +kernel
theorem dX12_goAt_5 : decode cX12_goAt 5 = .ok (.iconst 2, 1) := by decide +kernel
theorem dX12_goAt_6 : decode cX12_goAt 6 = .ok (.isub, 1) := by decide +kernel
theorem dX12_goAt_7 : decode cX12_goAt 7 = .ok (.iconst 3, 1) := by decide +kernel
theorem dX12_goAt_8 : decode cX12_goAt 8 = .ok (.imul, 1) := by decide +kernel
theorem dX12_goAt_9 : decode cX12_goAt 9 = .ok (.iload_n 2, 1) := by decide +kernel
theorem dX12_goAt_10 : decode cX12_goAt 10 = .ok (.iadd, 1) := by decide +kernel
theorem dX12_goAt_11 : decode cX12_goAt 11 = .ok (.ireturn, 1) := by decide +kernel
theorem dX12_closeAt_0 : decode cX12_closeAt 0 = .ok (.iconst 2, 1) := by decide +kernel
theorem dX12_closeAt_1 : decode cX12_closeAt 1 = .ok (.iload_n 0, 1) := by decide +kernel
theorem dX12_closeAt_2 : decode cX12_closeAt 2 = .ok (.imul, 1) := by decide +kernel
theorem dX12_closeAt_3 : decode cX12_closeAt 3 = .ok (.iload_n 1, 1) := by decide +kernel
theorem dX12_closeAt_4 : decode cX12_closeAt 4 = .ok (.iadd, 1) := by decide +kernel
theorem dX12_closeAt_5 : decode cX12_closeAt 5 = .ok (.iconst 4, 1) := by decide +kernel
theorem dX12_closeAt_6 : decode cX12_closeAt 6 = .ok (.isub, 1) := by decide +kernel
theorem dX12_closeAt_7 : decode cX12_closeAt 7 = .ok (.iconst 3, 1) := by decide +kernel
theorem dX12_closeAt_8 : decode cX12_closeAt 8 = .ok (.imul, 1) := by decide +kernel
theorem dX12_closeAt_9 : decode cX12_closeAt 9 = .ok (.iload_n 2, 1) := by decide +kernel
theorem dX12_closeAt_10 : decode cX12_closeAt 10 = .ok (.iadd, 1) := by decide +kernel
theorem dX12_closeAt_11 : decode cX12_closeAt 11 = .ok (.iconst 3, 1) := by decide +kernel
theorem dX12_closeAt_12 : decode cX12_closeAt 12 = .ok (.imul, 1) := by decide +kernel
theorem dX12_closeAt_13 : decode cX12_closeAt 13 = .ok (.iload_n 3, 1) := by decide +kernel
theorem dX12_closeAt_14 : decode cX12_closeAt 14 = .ok (.iadd, 1) := by decide +kernel
theorem dX12_closeAt_15 : decode cX12_closeAt 15 = .ok (.iconst 1, 1) := by decide +kernel
theorem dX12_closeAt_16 : decode cX12_closeAt 16 = .ok (.iadd, 1) := by decide +kernel
theorem dX12_closeAt_17 : decode cX12_closeAt 17 = .ok (.ireturn, 1) := by decide +kernel
theorem ggX12_reader_X12_isReader : GoodIn wsX12_reader wsX12_isReader := gdC (gd1 m11_2)
theorem gX12_reader_X12_isReader : GoodIn wsX12_reader (va_wsS RX12 116 yX12_isReader wsX12_isReader) := gdC (gd3 m11_0 m11_1 m1_5 m11_2)
theorem ggX12_reader_X12_in : GoodIn wsX12_reader wsX12_in := gdC (gd1 m11_5)
theorem gX12_reader_X12_in : GoodIn wsX12_reader (va_wsS RX12 112 yX12_in wsX12_in) := gdC (gd3 m11_3 m11_4 m1_5 m11_5)
theorem dX12_reader_0 : decode cX12_reader 0 = .ok (.iload_n 1, 1) := by decide +kernel
theorem dX12_reader_1 : decode cX12_reader 1 = .ok (.invokestatic 116, 3) := by decide +kernel
theorem dX12_reader_4 : decode cX12_reader 4 = .ok (.ifCond .ne 6, 3) := by decide +kernel
theorem dX12_reader_7 : decode cX12_reader 7 = .ok (.bipush (-2), 2) := by decide +kernel
theorem dX12_reader_9 : decode cX12_reader 9 = .ok (.ireturn, 1) := by decide +kernel
theorem dX12_reader_10 : decode cX12_reader 10 = .ok (.iload_n 2, 1) := by decide +kernel
theorem dX12_reader_11 : decode cX12_reader 11 = .ok (.iconst 1, 1) := by decide +kernel
theorem dX12_reader_12 : decode cX12_reader 12 = .ok (.iconst 3, 1) := by decide +kernel
theorem dX12_reader_13 : decode cX12_reader 13 = .ok (.invokestatic 112, 3) := by decide +kernel
theorem dX12_reader_16 : decode cX12_reader 16 = .ok (.ifCond .eq 26, 3) := by decide +kernel
theorem dX12_reader_19 : decode cX12_reader 19 = .ok (.iload_n 3, 1) := by decide +kernel
theorem dX12_reader_20 : decode cX12_reader 20 = .ok (.iconst 1, 1) := by decide +kernel
theorem dX12_reader_21 : decode cX12_reader 21 = .ok (.iconst 2, 1) := by decide +kernel
theorem dX12_reader_22 : decode cX12_reader 22 = .ok (.invokestatic 112, 3) := by decide +kernel
theorem dX12_reader_25 : decode cX12_reader 25 = .ok (.ifCond .eq 17, 3) := by decide +kernel
theorem dX12_reader_28 : decode cX12_reader 28 = .ok (.iload 4, 2) := by decide +kernel
theorem dX12_reader_30 : decode cX12_reader 30 = .ok (.iconst 0, 1) := by decide +kernel
theorem dX12_reader_31 : decode cX12_reader 31 = .ok (.iconst 1, 1) := by decide +kernel
theorem dX12_reader_32 : decode cX12_reader 32 = .ok (.iload_n 2, 1) := by decide +kernel
theorem dX12_reader_33 : decode cX12_reader 33 = .ok (.ishl, 1) := by decide +kernel
theorem dX12_reader_34 : decode cX12_reader 34 = .ok (.iconst 1, 1) := by decide +kernel
theorem dX12_reader_35 : decode cX12_reader 35 = .ok (.isub, 1) := by decide +kernel
theorem dX12_reader_36 : decode cX12_reader 36 = .ok (.invokestatic 112, 3) := by decide +kernel
theorem dX12_reader_39 : decode cX12_reader 39 = .ok (.ifCond .ne 6, 3) := by decide +kernel
theorem dX12_reader_42 : decode cX12_reader 42 = .ok (.bipush (-3), 2) := by decide +kernel
theorem dX12_reader_44 : decode cX12_reader 44 = .ok (.ireturn, 1) := by decide +kernel
theorem dX12_reader_45 : decode cX12_reader 45 = .ok (.aload_n 0, 1) := by decide +kernel
theorem dX12_reader_46 : decode cX12_reader 46 = .ok (.getfield 7, 3) := by decide +kernel
theorem dX12_reader_49 : decode cX12_reader 49 = .ok (.iload_n 1, 1) := by decide +kernel
theorem dX12_reader_50 : decode cX12_reader 50 = .ok (.iload_n 2, 1) := by decide +kernel
theorem dX12_reader_51 : decode cX12_reader 51 = .ok (.iastore, 1) := by decide +kernel
theorem dX12_reader_52 : decode cX12_reader 52 = .ok (.aload_n 0, 1) := by decide +kernel
theorem dX12_reader_53 : decode cX12_reader 53 = .ok (.getfield 13, 3) := by decide +kernel
theorem dX12_reader_56 : decode cX12_reader 56 = .ok (.iload_n 1, 1) := by decide +kernel
theorem dX12_reader_57 : decode cX12_reader 57 = .ok (.iload_n 3, 1) := by decide +kernel
theorem dX12_reader_58 : decode cX12_reader 58 = .ok (.iastore, 1) := by decide +kernel
theorem dX12_reader_59 : decode cX12_reader 59 = .ok (.aload_n 0, 1) := by decide +kernel
theorem dX12_reader_60 : decode cX12_reader 60 = .ok (.getfield 16, 3) := by decide +kernel
theorem dX12_reader_63 : decode cX12_reader 63 = .ok (.iload_n 1, 1) := by decide +kernel
theorem dX12_reader_64 : decode cX12_reader 64 = .ok (.iload 4, 2) := by decide +kernel
theorem dX12_reader_66 : decode cX12_reader 66 = .ok (.iastore, 1) := by decide +kernel
theorem dX12_reader_67 : decode cX12_reader 67 = .ok (.iconst 0, 1) := by decide +kernel
theorem dX12_reader_68 : decode cX12_reader 68 = .ok (.istore 5, 2) := by decide +kernel
theorem dX12_reader_70 : decode cX12_reader 70 = .ok (.iload 5, 2) := by decide +kernel
theorem dX12_reader_72 : decode cX12_reader 72 = .ok (.bipush 12, 2) := by decide +kernel
theorem dX12_reader_74 : decode cX12_reader 74 = .ok (.if_icmp .ge 22, 3) := by decide +kernel
theorem dX12_reader_77 : decode cX12_reader 77 = .ok (.aload_n 0, 1) := by decide +kernel
theorem dX12_reader_78 : decode cX12_reader 78 = .ok (.getfield 19, 3) := by decide +kernel
theorem dX12_reader_81 : decode cX12_reader 81 = .ok (.bipush 12, 2) := by decide +kernel
theorem dX12_reader_83 : decode cX12_reader 83 = .ok (.iload_n 1, 1) := by decide +kernel
theorem dX12_reader_84 : decode cX12_reader 84 = .ok (.imul, 1) := by decide +kernel
theorem dX12_reader_85 : decode cX12_reader 85 = .ok (.iload 5, 2) := by decide +kernel
theorem dX12_reader_87 : decode cX12_reader 87 = .ok (.iadd, 1) := by decide +kernel
theorem dX12_reader_88 : decode cX12_reader 88 = .ok (.iconst 0, 1) := by decide +kernel
theorem dX12_reader_89 : decode cX12_reader 89 = .ok (.iastore, 1) := by decide +kernel
theorem dX12_reader_90 : decode cX12_reader 90 = .ok (.iinc 5 1, 3) := by decide +kernel
theorem dX12_reader_93 : decode cX12_reader 93 = .ok (.goto (-23), 3) := by decide +kernel
theorem dX12_reader_96 : decode cX12_reader 96 = .ok (.iconst 0, 1) := by decide +kernel
theorem dX12_reader_97 : decode cX12_reader 97 = .ok (.istore 5, 2) := by decide +kernel
theorem dX12_reader_99 : decode cX12_reader 99 = .ok (.iload 5, 2) := by decide +kernel
theorem dX12_reader_101 : decode cX12_reader 101 = .ok (.bipush 6, 2) := by decide +kernel
theorem dX12_reader_103 : decode cX12_reader 103 = .ok (.if_icmp .ge 22, 3) := by decide +kernel
theorem dX12_reader_106 : decode cX12_reader 106 = .ok (.aload_n 0, 1) := by decide +kernel
theorem dX12_reader_107 : decode cX12_reader 107 = .ok (.getfield 22, 3) := by decide +kernel
theorem dX12_reader_110 : decode cX12_reader 110 = .ok (.bipush 6, 2) := by decide +kernel
theorem dX12_reader_112 : decode cX12_reader 112 = .ok (.iload_n 1, 1) := by decide +kernel
theorem dX12_reader_113 : decode cX12_reader 113 = .ok (.imul, 1) := by decide +kernel
theorem dX12_reader_114 : decode cX12_reader 114 = .ok (.iload 5, 2) := by decide +kernel
theorem dX12_reader_116 : decode cX12_reader 116 = .ok (.iadd, 1) := by decide +kernel
theorem dX12_reader_117 : decode cX12_reader 117 = .ok (.iconst 0, 1) := by decide +kernel
theorem dX12_reader_118 : decode cX12_reader 118 = .ok (.iastore, 1) := by decide +kernel
theorem dX12_reader_119 : decode cX12_reader 119 = .ok (.iinc 5 1, 3) := by decide +kernel
theorem dX12_reader_122 : decode cX12_reader 122 = .ok (.goto (-23), 3) := by decide +kernel
theorem dX12_reader_125 : decode cX12_reader 125 = .ok (.iconst 0, 1) := by decide +kernel
theorem dX12_reader_126 : decode cX12_reader 126 = .ok (.istore 5, 2) := by decide +kernel
theorem dX12_reader_128 : decode cX12_reader 128 = .ok (.iload 5, 2) := by decide +kernel
theorem dX12_reader_130 : decode cX12_reader 130 = .ok (.bipush 18, 2) := by decide +kernel
theorem dX12_reader_132 : decode cX12_reader 132 = .ok (.if_icmp .ge 22, 3) := by decide +kernel
theorem dX12_reader_135 : decode cX12_reader 135 = .ok (.aload_n 0, 1) := by decide +kernel
theorem dX12_reader_136 : decode cX12_reader 136 = .ok (.getfield 25, 3) := by decide +kernel
theorem dX12_reader_139 : decode cX12_reader 139 = .ok (.bipush 18, 2) := by decide +kernel
theorem dX12_reader_141 : decode cX12_reader 141 = .ok (.iload_n 1, 1) := by decide +kernel
theorem dX12_reader_142 : decode cX12_reader 142 = .ok (.imul, 1) := by decide +kernel
theorem dX12_reader_143 : decode cX12_reader 143 = .ok (.iload 5, 2) := by decide +kernel
theorem dX12_reader_145 : decode cX12_reader 145 = .ok (.iadd, 1) := by decide +kernel
theorem dX12_reader_146 : decode cX12_reader 146 = .ok (.iconst 0, 1) := by decide +kernel
theorem dX12_reader_147 : decode cX12_reader 147 = .ok (.iastore, 1) := by decide +kernel
theorem dX12_reader_148 : decode cX12_reader 148 = .ok (.iinc 5 1, 3) := by decide +kernel
theorem dX12_reader_151 : decode cX12_reader 151 = .ok (.goto (-23), 3) := by decide +kernel
theorem dX12_reader_154 : decode cX12_reader 154 = .ok (.aload_n 0, 1) := by decide +kernel
theorem dX12_reader_155 : decode cX12_reader 155 = .ok (.iconst (-1), 1) := by decide +kernel
theorem dX12_reader_156 : decode cX12_reader 156 = .ok (.putfield 68, 3) := by decide +kernel
theorem dX12_reader_159 : decode cX12_reader 159 = .ok (.iconst 1, 1) := by decide +kernel
theorem dX12_reader_160 : decode cX12_reader 160 = .ok (.ireturn, 1) := by decide +kernel
theorem ggX12_write_X12_in : GoodIn wsX12_write wsX12_in := gdC (gd1 m11_5)
theorem gX12_write_X12_in : GoodIn wsX12_write (va_wsS RX12 112 yX12_in wsX12_in) := gdC (gd3 m11_3 m11_4 m1_5 m11_5)
theorem dX12_write_0 : decode cX12_write 0 = .ok (.iload_n 3, 1) := by decide +kernel
theorem dX12_write_1 : decode cX12_write 1 = .ok (.iconst 1, 1) := by decide +kernel
theorem dX12_write_2 : decode cX12_write 2 = .ok (.bipush 8, 2) := by decide +kernel
theorem dX12_write_4 : decode cX12_write 4 = .ok (.invokestatic 112, 3) := by decide +kernel
theorem dX12_write_7 : decode cX12_write 7 = .ok (.ifCond .ne 6, 3) := by decide +kernel
theorem dX12_write_10 : decode cX12_write 10 = .ok (.bipush (-3), 2) := by decide +kernel
theorem dX12_write_12 : decode cX12_write 12 = .ok (.ireturn, 1) := by decide +kernel
theorem dX12_write_13 : decode cX12_write 13 = .ok (.aload_n 0, 1) := by decide +kernel
theorem dX12_write_14 : decode cX12_write 14 = .ok (.getfield 120, 3) := by decide +kernel
theorem dX12_write_17 : decode cX12_write 17 = .ok (.iload_n 3, 1) := by decide +kernel
theorem dX12_write_18 : decode cX12_write 18 = .ok (.iadd, 1) := by decide +kernel
theorem dX12_write_19 : decode cX12_write 19 = .ok (.sipush 160, 3) := by decide +kernel
theorem dX12_write_22 : decode cX12_write 22 = .ok (.if_icmp .le 6, 3) := by decide +kernel
theorem dX12_write_25 : decode cX12_write 25 = .ok (.bipush (-5), 2) := by decide +kernel
theorem dX12_write_27 : decode cX12_write 27 = .ok (.ireturn, 1) := by decide +kernel
theorem dX12_write_28 : decode cX12_write 28 = .ok (.iconst 0, 1) := by decide +kernel
theorem dX12_write_29 : decode cX12_write 29 = .ok (.istore 4, 2) := by decide +kernel
theorem dX12_write_31 : decode cX12_write 31 = .ok (.iload 4, 2) := by decide +kernel
theorem dX12_write_33 : decode cX12_write 33 = .ok (.iload_n 3, 1) := by decide +kernel
theorem dX12_write_34 : decode cX12_write 34 = .ok (.if_icmp .ge 33, 3) := by decide +kernel
theorem dX12_write_37 : decode cX12_write 37 = .ok (.aload_n 0, 1) := by decide +kernel
theorem dX12_write_38 : decode cX12_write 38 = .ok (.getfield 28, 3) := by decide +kernel
theorem dX12_write_41 : decode cX12_write 41 = .ok (.aload_n 0, 1) := by decide +kernel
theorem dX12_write_42 : decode cX12_write 42 = .ok (.getfield 120, 3) := by decide +kernel
theorem dX12_write_45 : decode cX12_write 45 = .ok (.iload 4, 2) := by decide +kernel
theorem dX12_write_47 : decode cX12_write 47 = .ok (.iadd, 1) := by decide +kernel
theorem dX12_write_48 : decode cX12_write 48 = .ok (.lload_n 1, 1) := by decide +kernel
theorem dX12_write_49 : decode cX12_write 49 = .ok (.bipush 8, 2) := by decide +kernel
theorem dX12_write_51 : decode cX12_write 51 = .ok (.iload 4, 2) := by decide +kernel
theorem dX12_write_53 : decode cX12_write 53 = .ok (.imul, 1) := by decide +kernel
theorem dX12_write_54 : decode cX12_write 54 = .ok (.lshr, 1) := by decide +kernel
theorem dX12_write_55 : decode cX12_write 55 = .ok (.ldc2_w 123, 3) := by decide +kernel
theorem dX12_write_58 : decode cX12_write 58 = .ok (.land, 1) := by decide +kernel
theorem dX12_write_59 : decode cX12_write 59 = .ok (.l2i, 1) := by decide +kernel
theorem dX12_write_60 : decode cX12_write 60 = .ok (.iastore, 1) := by decide +kernel
theorem dX12_write_61 : decode cX12_write 61 = .ok (.iinc 4 1, 3) := by decide +kernel
theorem dX12_write_64 : decode cX12_write 64 = .ok (.goto (-33), 3) := by decide +kernel
theorem dX12_write_67 : decode cX12_write 67 = .ok (.aload_n 0, 1) := by decide +kernel
theorem dX12_write_68 : decode cX12_write 68 = .ok (.dup, 1) := by decide +kernel
theorem dX12_write_69 : decode cX12_write 69 = .ok (.getfield 120, 3) := by decide +kernel
theorem dX12_write_72 : decode cX12_write 72 = .ok (.iload_n 3, 1) := by decide +kernel
theorem dX12_write_73 : decode cX12_write 73 = .ok (.iadd, 1) := by decide +kernel
theorem dX12_write_74 : decode cX12_write 74 = .ok (.putfield 120, 3) := by decide +kernel
theorem dX12_write_77 : decode cX12_write 77 = .ok (.aload_n 0, 1) := by decide +kernel
theorem dX12_write_78 : decode cX12_write 78 = .ok (.getfield 120, 3) := by decide +kernel
theorem dX12_write_81 : decode cX12_write 81 = .ok (.ireturn, 1) := by decide +kernel
theorem dX12_erase_0 : decode cX12_erase 0 = .ok (.aload_n 0, 1) := by decide +kernel
theorem dX12_erase_1 : decode cX12_erase 1 = .ok (.getfield 120, 3) := by decide +kernel
theorem dX12_erase_4 : decode cX12_erase 4 = .ok (.istore_n 1, 1) := by decide +kernel
theorem dX12_erase_5 : decode cX12_erase 5 = .ok (.aload_n 0, 1) := by decide +kernel
theorem dX12_erase_6 : decode cX12_erase 6 = .ok (.iconst 0, 1) := by decide +kernel
theorem dX12_erase_7 : decode cX12_erase 7 = .ok (.putfield 120, 3) := by decide +kernel
theorem dX12_erase_10 : decode cX12_erase 10 = .ok (.iload_n 1, 1) := by decide +kernel
theorem dX12_erase_11 : decode cX12_erase 11 = .ok (.ireturn, 1) := by decide +kernel
theorem ggX12_nextToken_X12_in : GoodIn wsX12_nextToken wsX12_in := gdC (gd1 m11_5)
theorem gX12_nextToken_X12_in : GoodIn wsX12_nextToken (va_wsS RX12 112 yX12_in wsX12_in) := gdC (gd3 m11_3 m11_4 m1_5 m11_5)
theorem dX12_nextToken_0 : decode cX12_nextToken 0 = .ok (.aload_n 0, 1) := by decide +kernel
theorem dX12_nextToken_1 : decode cX12_nextToken 1 = .ok (.getfield 125, 3) := by decide +kernel
theorem dX12_nextToken_4 : decode cX12_nextToken 4 = .ok (.aload_n 0, 1) := by decide +kernel
theorem dX12_nextToken_5 : decode cX12_nextToken 5 = .ok (.getfield 120, 3) := by decide +kernel
theorem dX12_nextToken_8 : decode cX12_nextToken 8 = .ok (.if_icmp .ge 30, 3) := by decide +kernel
theorem dX12_nextToken_11 : decode cX12_nextToken 11 = .ok (.aload_n 0, 1) := by decide +kernel
theorem dX12_nextToken_12 : decode cX12_nextToken 12 = .ok (.getfield 28, 3) := by decide +kernel
theorem dX12_nextToken_15 : decode cX12_nextToken 15 = .ok (.aload_n 0, 1) := by decide +kernel
theorem dX12_nextToken_16 : decode cX12_nextToken 16 = .ok (.getfield 125, 3) := by decide +kernel
theorem dX12_nextToken_19 : decode cX12_nextToken 19 = .ok (.iaload, 1) := by decide +kernel
theorem dX12_nextToken_20 : decode cX12_nextToken 20 = .ok (.bipush 32, 2) := by decide +kernel
theorem dX12_nextToken_22 : decode cX12_nextToken 22 = .ok (.if_icmp .ne 16, 3) := by decide +kernel
theorem dX12_nextToken_25 : decode cX12_nextToken 25 = .ok (.aload_n 0, 1) := by decide +kernel
theorem dX12_nextToken_26 : decode cX12_nextToken 26 = .ok (.dup, 1) := by decide +kernel
theorem dX12_nextToken_27 : decode cX12_nextToken 27 = .ok (.getfield 125, 3) := by decide +kernel
theorem dX12_nextToken_30 : decode cX12_nextToken 30 = .ok (.iconst 1, 1) := by decide +kernel
theorem dX12_nextToken_31 : decode cX12_nextToken 31 = .ok (.iadd, 1) := by decide +kernel
theorem dX12_nextToken_32 : decode cX12_nextToken 32 = .ok (.putfield 125, 3) := by decide +kernel
theorem dX12_nextToken_35 : decode cX12_nextToken 35 = .ok (.goto (-35), 3) := by decide +kernel
theorem dX12_nextToken_38 : decode cX12_nextToken 38 = .ok (.aload_n 0, 1) := by decide +kernel
theorem dX12_nextToken_39 : decode cX12_nextToken 39 = .ok (.aload_n 0, 1) := by decide +kernel
theorem dX12_nextToken_40 : decode cX12_nextToken 40 = .ok (.getfield 125, 3) := by decide +kernel
theorem dX12_nextToken_43 : decode cX12_nextToken 43 = .ok (.putfield 128, 3) := by decide +kernel
theorem dX12_nextToken_46 : decode cX12_nextToken 46 = .ok (.aload_n 0, 1) := by decide +kernel
theorem dX12_nextToken_47 : decode cX12_nextToken 47 = .ok (.iconst 0, 1) := by decide +kernel
theorem dX12_nextToken_48 : decode cX12_nextToken 48 = .ok (.putfield 131, 3) := by decide +kernel
theorem dX12_nextToken_51 : decode cX12_nextToken 51 = .ok (.aload_n 0, 1) := by decide +kernel
theorem dX12_nextToken_52 : decode cX12_nextToken 52 = .ok (.iconst 0, 1) := by decide +kernel
theorem dX12_nextToken_53 : decode cX12_nextToken 53 = .ok (.putfield 134, 3) := by decide +kernel
theorem dX12_nextToken_56 : decode cX12_nextToken 56 = .ok (.aload_n 0, 1) := by decide +kernel
theorem dX12_nextToken_57 : decode cX12_nextToken 57 = .ok (.getfield 125, 3) := by decide +kernel
theorem dX12_nextToken_60 : decode cX12_nextToken 60 = .ok (.aload_n 0, 1) := by decide +kernel
theorem dX12_nextToken_61 : decode cX12_nextToken 61 = .ok (.getfield 120, 3) := by decide +kernel
theorem dX12_nextToken_64 : decode cX12_nextToken 64 = .ok (.if_icmp .ne 13, 3) := by decide +kernel
theorem dX12_nextToken_67 : decode cX12_nextToken 67 = .ok (.aload_n 0, 1) := by decide +kernel
theorem dX12_nextToken_68 : decode cX12_nextToken 68 = .ok (.ldc2_w 137, 3) := by decide +kernel
theorem dX12_nextToken_71 : decode cX12_nextToken 71 = .ok (.putfield 139, 3) := by decide +kernel
theorem dX12_nextToken_74 : decode cX12_nextToken 74 = .ok (.goto 297, 3) := by decide +kernel
theorem dX12_nextToken_77 : decode cX12_nextToken 77 = .ok (.aload_n 0, 1) := by decide +kernel
theorem dX12_nextToken_78 : decode cX12_nextToken 78 = .ok (.getfield 28, 3) := by decide +kernel
theorem dX12_nextToken_81 : decode cX12_nextToken 81 = .ok (.aload_n 0, 1) := by decide +kernel
theorem dX12_nextToken_82 : decode cX12_nextToken 82 = .ok (.getfield 125, 3) := by decide +kernel
theorem dX12_nextToken_85 : decode cX12_nextToken 85 = .ok (.iaload, 1) := by decide +kernel
theorem dX12_nextToken_86 : decode cX12_nextToken 86 = .ok (.bipush 97, 2) := by decide +kernel
theorem dX12_nextToken_88 : decode cX12_nextToken 88 = .ok (.bipush 122, 2) := by decide +kernel
theorem dX12_nextToken_90 : decode cX12_nextToken 90 = .ok (.invokestatic 112, 3) := by decide +kernel
theorem dX12_nextToken_93 : decode cX12_nextToken 93 = .ok (.ifCond .eq 129, 3) := by decide +kernel
theorem dX12_nextToken_96 : decode cX12_nextToken 96 = .ok (.aload_n 0, 1) := by decide +kernel
theorem dX12_nextToken_97 : decode cX12_nextToken 97 = .ok (.lconst 0, 1) := by decide +kernel
theorem dX12_nextToken_98 : decode cX12_nextToken 98 = .ok (.putfield 139, 3) := by decide +kernel
theorem dX12_nextToken_101 : decode cX12_nextToken 101 = .ok (.aload_n 0, 1) := by decide +kernel
theorem dX12_nextToken_102 : decode cX12_nextToken 102 = .ok (.getfield 125, 3) := by decide +kernel
theorem dX12_nextToken_105 : decode cX12_nextToken 105 = .ok (.aload_n 0, 1) := by decide +kernel
theorem dX12_nextToken_106 : decode cX12_nextToken 106 = .ok (.getfield 120, 3) := by decide +kernel
theorem dX12_nextToken_109 : decode cX12_nextToken 109 = .ok (.if_icmp .ge 82, 3) := by decide +kernel
theorem dX12_nextToken_112 : decode cX12_nextToken 112 = .ok (.aload_n 0, 1) := by decide +kernel
theorem dX12_nextToken_113 : decode cX12_nextToken 113 = .ok (.getfield 28, 3) := by decide +kernel
theorem dX12_nextToken_116 : decode cX12_nextToken 116 = .ok (.aload_n 0, 1) := by decide +kernel
theorem dX12_nextToken_117 : decode cX12_nextToken 117 = .ok (.getfield 125, 3) := by decide +kernel
theorem dX12_nextToken_120 : decode cX12_nextToken 120 = .ok (.iaload, 1) := by decide +kernel
theorem dX12_nextToken_121 : decode cX12_nextToken 121 = .ok (.bipush 97, 2) := by decide +kernel
theorem dX12_nextToken_123 : decode cX12_nextToken 123 = .ok (.bipush 122, 2) := by decide +kernel
theorem dX12_nextToken_125 : decode cX12_nextToken 125 = .ok (.invokestatic 112, 3) := by decide +kernel
theorem dX12_nextToken_128 : decode cX12_nextToken 128 = .ok (.ifCond .eq 63, 3) := by decide +kernel
theorem dX12_nextToken_131 : decode cX12_nextToken 131 = .ok (.aload_n 0, 1) := by decide +kernel
theorem dX12_nextToken_132 : decode cX12_nextToken 132 = .ok (.aload_n 0, 1) := by decide +kernel
theorem dX12_nextToken_133 : decode cX12_nextToken 133 = .ok (.getfield 125, 3) := by decide +kernel
theorem dX12_nextToken_136 : decode cX12_nextToken 136 = .ok (.aload_n 0, 1) := by decide +kernel
theorem dX12_nextToken_137 : decode cX12_nextToken 137 = .ok (.getfield 128, 3) := by decide +kernel
theorem dX12_nextToken_140 : decode cX12_nextToken 140 = .ok (.isub, 1) := by decide +kernel
theorem dX12_nextToken_141 : decode cX12_nextToken 141 = .ok (.bipush 9, 2) := by decide +kernel
theorem dX12_nextToken_143 : decode cX12_nextToken 143 = .ok (.if_icmp .ge 29, 3) := by decide +kernel
theorem dX12_nextToken_146 : decode cX12_nextToken 146 = .ok (.ldc2_w 143, 3) := by decide +kernel
theorem dX12_nextToken_149 : decode cX12_nextToken 149 = .ok (.aload_n 0, 1) := by decide +kernel
theorem dX12_nextToken_150 : decode cX12_nextToken 150 = .ok (.getfield 139, 3) := by decide +kernel
theorem dX12_nextToken_153 : decode cX12_nextToken 153 = .ok (.lmul, 1) := by decide +kernel
theorem dX12_nextToken_154 : decode cX12_nextToken 154 = .ok (.aload_n 0, 1) := by decide +kernel
theorem dX12_nextToken_155 : decode cX12_nextToken 155 = .ok (.getfield 28, 3) := by decide +kernel
theorem dX12_nextToken_158 : decode cX12_nextToken 158 = .ok (.aload_n 0, 1) := by decide +kernel
theorem dX12_nextToken_159 : decode cX12_nextToken 159 = .ok (.getfield 125, 3) := by decide +kernel
theorem dX12_nextToken_162 : decode cX12_nextToken 162 = .ok (.iaload, 1) := by decide +kernel
theorem dX12_nextToken_163 : decode cX12_nextToken 163 = .ok (.i2l, 1) := by decide +kernel
theorem dX12_nextToken_164 : decode cX12_nextToken 164 = .ok (.ladd, 1) := by decide +kernel
theorem dX12_nextToken_165 : decode cX12_nextToken 165 = .ok (.ldc2_w 145, 3) := by decide +kernel
theorem dX12_nextToken_168 : decode cX12_nextToken 168 = .ok (.lsub, 1) := by decide +kernel
theorem dX12_nextToken_169 : decode cX12_nextToken 169 = .ok (.goto 6, 3) := by decide +kernel
theorem dX12_nextToken_172 : decode cX12_nextToken 172 = .ok (.ldc2_w 147, 3) := by decide +kernel
theorem dX12_nextToken_175 : decode cX12_nextToken 175 = .ok (.putfield 139, 3) := by decide +kernel
theorem dX12_nextToken_178 : decode cX12_nextToken 178 = .ok (.aload_n 0, 1) := by decide +kernel
theorem dX12_nextToken_179 : decode cX12_nextToken 179 = .ok (.dup, 1) := by decide +kernel
theorem dX12_nextToken_180 : decode cX12_nextToken 180 = .ok (.getfield 125, 3) := by decide +kernel
theorem dX12_nextToken_183 : decode cX12_nextToken 183 = .ok (.iconst 1, 1) := by decide +kernel
theorem dX12_nextToken_184 : decode cX12_nextToken 184 = .ok (.iadd, 1) := by decide +kernel
theorem dX12_nextToken_185 : decode cX12_nextToken 185 = .ok (.putfield 125, 3) := by decide +kernel
theorem dX12_nextToken_188 : decode cX12_nextToken 188 = .ok (.goto (-87), 3) := by decide +kernel
theorem dX12_nextToken_191 : decode cX12_nextToken 191 = .ok (.aload_n 0, 1) := by decide +kernel
theorem dX12_nextToken_192 : decode cX12_nextToken 192 = .ok (.aload_n 0, 1) := by decide +kernel
theorem dX12_nextToken_193 : decode cX12_nextToken 193 = .ok (.getfield 125, 3) := by decide +kernel
theorem dX12_nextToken_196 : decode cX12_nextToken 196 = .ok (.aload_n 0, 1) := by decide +kernel
theorem dX12_nextToken_197 : decode cX12_nextToken 197 = .ok (.getfield 128, 3) := by decide +kernel
theorem dX12_nextToken_200 : decode cX12_nextToken 200 = .ok (.isub, 1) := by decide +kernel
theorem dX12_nextToken_201 : decode cX12_nextToken 201 = .ok (.bipush 9, 2) := by decide +kernel
theorem dX12_nextToken_203 : decode cX12_nextToken 203 = .ok (.if_icmp .le 9, 3) := by decide +kernel
theorem dX12_nextToken_206 : decode cX12_nextToken 206 = .ok (.ldc2_w 147, 3) := by decide +kernel
theorem dX12_nextToken_209 : decode cX12_nextToken 209 = .ok (.goto 7, 3) := by decide +kernel
theorem dX12_nextToken_212 : decode cX12_nextToken 212 = .ok (.aload_n 0, 1) := by decide +kernel
theorem dX12_nextToken_213 : decode cX12_nextToken 213 = .ok (.getfield 139, 3) := by decide +kernel
theorem dX12_nextToken_216 : decode cX12_nextToken 216 = .ok (.putfield 139, 3) := by decide +kernel
theorem dX12_nextToken_219 : decode cX12_nextToken 219 = .ok (.goto 152, 3) := by decide +kernel
theorem dX12_nextToken_222 : decode cX12_nextToken 222 = .ok (.aload_n 0, 1) := by decide +kernel
theorem dX12_nextToken_223 : decode cX12_nextToken 223 = .ok (.getfield 28, 3) := by decide +kernel
theorem dX12_nextToken_226 : decode cX12_nextToken 226 = .ok (.aload_n 0, 1) := by decide +kernel
theorem dX12_nextToken_227 : decode cX12_nextToken 227 = .ok (.getfield 125, 3) := by decide +kernel
theorem dX12_nextToken_230 : decode cX12_nextToken 230 = .ok (.iaload, 1) := by decide +kernel
theorem dX12_nextToken_231 : decode cX12_nextToken 231 = .ok (.bipush 48, 2) := by decide +kernel
theorem dX12_nextToken_233 : decode cX12_nextToken 233 = .ok (.bipush 57, 2) := by decide +kernel
theorem dX12_nextToken_235 : decode cX12_nextToken 235 = .ok (.invokestatic 112, 3) := by decide +kernel
theorem dX12_nextToken_238 : decode cX12_nextToken 238 = .ok (.ifCond .eq 96, 3) := by decide +kernel
theorem dX12_nextToken_241 : decode cX12_nextToken 241 = .ok (.aload_n 0, 1) := by decide +kernel
theorem dX12_nextToken_242 : decode cX12_nextToken 242 = .ok (.getfield 125, 3) := by decide +kernel
theorem dX12_nextToken_245 : decode cX12_nextToken 245 = .ok (.aload_n 0, 1) := by decide +kernel
theorem dX12_nextToken_246 : decode cX12_nextToken 246 = .ok (.getfield 120, 3) := by decide +kernel
theorem dX12_nextToken_249 : decode cX12_nextToken 249 = .ok (.if_icmp .ge 61, 3) := by decide +kernel
theorem dX12_nextToken_252 : decode cX12_nextToken 252 = .ok (.aload_n 0, 1) := by decide +kernel
theorem dX12_nextToken_253 : decode cX12_nextToken 253 = .ok (.getfield 28, 3) := by decide +kernel
theorem dX12_nextToken_256 : decode cX12_nextToken 256 = .ok (.aload_n 0, 1) := by decide +kernel
theorem dX12_nextToken_257 : decode cX12_nextToken 257 = .ok (.getfield 125, 3) := by decide +kernel
theorem dX12_nextToken_260 : decode cX12_nextToken 260 = .ok (.iaload, 1) := by decide +kernel
theorem dX12_nextToken_261 : decode cX12_nextToken 261 = .ok (.bipush 48, 2) := by decide +kernel
theorem dX12_nextToken_263 : decode cX12_nextToken 263 = .ok (.bipush 57, 2) := by decide +kernel
theorem dX12_nextToken_265 : decode cX12_nextToken 265 = .ok (.invokestatic 112, 3) := by decide +kernel
theorem dX12_nextToken_268 : decode cX12_nextToken 268 = .ok (.ifCond .eq 42, 3) := by decide +kernel
theorem dX12_nextToken_271 : decode cX12_nextToken 271 = .ok (.aload_n 0, 1) := by decide +kernel
theorem dX12_nextToken_272 : decode cX12_nextToken 272 = .ok (.aload_n 0, 1) := by decide +kernel
theorem dX12_nextToken_273 : decode cX12_nextToken 273 = .ok (.getfield 28, 3) := by decide +kernel
theorem dX12_nextToken_276 : decode cX12_nextToken 276 = .ok (.aload_n 0, 1) := by decide +kernel
theorem dX12_nextToken_277 : decode cX12_nextToken 277 = .ok (.getfield 125, 3) := by decide +kernel
theorem dX12_nextToken_280 : decode cX12_nextToken 280 = .ok (.iaload, 1) := by decide +kernel
theorem dX12_nextToken_281 : decode cX12_nextToken 281 = .ok (.bipush 48, 2) := by decide +kernel
theorem dX12_nextToken_283 : decode cX12_nextToken 283 = .ok (.isub, 1) := by decide +kernel
theorem dX12_nextToken_284 : decode cX12_nextToken 284 = .ok (.putfield 134, 3) := by decide +kernel
theorem dX12_nextToken_287 : decode cX12_nextToken 287 = .ok (.aload_n 0, 1) := by decide +kernel
theorem dX12_nextToken_288 : decode cX12_nextToken 288 = .ok (.dup, 1) := by decide +kernel
theorem dX12_nextToken_289 : decode cX12_nextToken 289 = .ok (.getfield 131, 3) := by decide +kernel
theorem dX12_nextToken_292 : decode cX12_nextToken 292 = .ok (.iconst 1, 1) := by decide +kernel
theorem dX12_nextToken_293 : decode cX12_nextToken 293 = .ok (.iadd, 1) := by decide +kernel
theorem dX12_nextToken_294 : decode cX12_nextToken 294 = .ok (.putfield 131, 3) := by decide +kernel
theorem dX12_nextToken_297 : decode cX12_nextToken 297 = .ok (.aload_n 0, 1) := by decide +kernel
theorem dX12_nextToken_298 : decode cX12_nextToken 298 = .ok (.dup, 1) := by decide +kernel
theorem dX12_nextToken_299 : decode cX12_nextToken 299 = .ok (.getfield 125, 3) := by decide +kernel
theorem dX12_nextToken_302 : decode cX12_nextToken 302 = .ok (.iconst 1, 1) := by decide +kernel
theorem dX12_nextToken_303 : decode cX12_nextToken 303 = .ok (.iadd, 1) := by decide +kernel
theorem dX12_nextToken_304 : decode cX12_nextToken 304 = .ok (.putfield 125, 3) := by decide +kernel
theorem dX12_nextToken_307 : decode cX12_nextToken 307 = .ok (.goto (-66), 3) := by decide +kernel
theorem dX12_nextToken_310 : decode cX12_nextToken 310 = .ok (.aload_n 0, 1) := by decide +kernel
theorem dX12_nextToken_311 : decode cX12_nextToken 311 = .ok (.aload_n 0, 1) := by decide +kernel
theorem dX12_nextToken_312 : decode cX12_nextToken 312 = .ok (.getfield 131, 3) := by decide +kernel
theorem dX12_nextToken_315 : decode cX12_nextToken 315 = .ok (.iconst 1, 1) := by decide +kernel
theorem dX12_nextToken_316 : decode cX12_nextToken 316 = .ok (.if_icmp .le 9, 3) := by decide +kernel
theorem dX12_nextToken_319 : decode cX12_nextToken 319 = .ok (.ldc2_w 147, 3) := by decide +kernel
theorem dX12_nextToken_322 : decode cX12_nextToken 322 = .ok (.goto 6, 3) := by decide +kernel
theorem dX12_nextToken_325 : decode cX12_nextToken 325 = .ok (.ldc2_w 149, 3) := by decide +kernel
theorem dX12_nextToken_328 : decode cX12_nextToken 328 = .ok (.putfield 139, 3) := by decide +kernel
theorem dX12_nextToken_331 : decode cX12_nextToken 331 = .ok (.goto 40, 3) := by decide +kernel
theorem dX12_nextToken_334 : decode cX12_nextToken 334 = .ok (.aload_n 0, 1) := by decide +kernel
theorem dX12_nextToken_335 : decode cX12_nextToken 335 = .ok (.aload_n 0, 1) := by decide +kernel
theorem dX12_nextToken_336 : decode cX12_nextToken 336 = .ok (.getfield 28, 3) := by decide +kernel
theorem dX12_nextToken_339 : decode cX12_nextToken 339 = .ok (.aload_n 0, 1) := by decide +kernel
theorem dX12_nextToken_340 : decode cX12_nextToken 340 = .ok (.getfield 125, 3) := by decide +kernel
theorem dX12_nextToken_343 : decode cX12_nextToken 343 = .ok (.iaload, 1) := by decide +kernel
theorem dX12_nextToken_344 : decode cX12_nextToken 344 = .ok (.bipush 59, 2) := by decide +kernel
theorem dX12_nextToken_346 : decode cX12_nextToken 346 = .ok (.if_icmp .ne 9, 3) := by decide +kernel
theorem dX12_nextToken_349 : decode cX12_nextToken 349 = .ok (.ldc2_w 151, 3) := by decide +kernel
theorem dX12_nextToken_352 : decode cX12_nextToken 352 = .ok (.goto 6, 3) := by decide +kernel
theorem dX12_nextToken_355 : decode cX12_nextToken 355 = .ok (.ldc2_w 147, 3) := by decide +kernel
theorem dX12_nextToken_358 : decode cX12_nextToken 358 = .ok (.putfield 139, 3) := by decide +kernel
theorem dX12_nextToken_361 : decode cX12_nextToken 361 = .ok (.aload_n 0, 1) := by decide +kernel
theorem dX12_nextToken_362 : decode cX12_nextToken 362 = .ok (.dup, 1) := by decide +kernel
theorem dX12_nextToken_363 : decode cX12_nextToken 363 = .ok (.getfield 125, 3) := by decide +kernel
theorem dX12_nextToken_366 : decode cX12_nextToken 366 = .ok (.iconst 1, 1) := by decide +kernel
theorem dX12_nextToken_367 : decode cX12_nextToken 367 = .ok (.iadd, 1) := by decide +kernel
theorem dX12_nextToken_368 : decode cX12_nextToken 368 = .ok (.putfield 125, 3) := by decide +kernel
theorem dX12_nextToken_371 : decode cX12_nextToken 371 = .ok (.return_, 1) := by decide +kernel
theorem dX12_fails_0 : decode cX12_fails 0 = .ok (.aload_n 0, 1) := by decide +kernel
theorem dX12_fails_1 : decode cX12_fails 1 = .ok (.aload_n 0, 1) := by decide +kernel
theorem dX12_fails_2 : decode cX12_fails 2 = .ok (.getfield 128, 3) := by decide +kernel
theorem dX12_fails_5 : decode cX12_fails 5 = .ok (.putfield 153, 3) := by decide +kernel
theorem dX12_fails_8 : decode cX12_fails 8 = .ok (.iconst 0, 1) := by decide +kernel
theorem dX12_fails_9 : decode cX12_fails 9 = .ok (.ireturn, 1) := by decide +kernel
theorem ggX12_isNumber_X12_nextToken : GoodIn wsX12_isNumber wsX12_nextToken := gdC (gd1 m19_3)
theorem gX12_isNumber_X12_nextToken : GoodIn wsX12_isNumber (wsV RX12 156 RX12 yX12_nextToken wsX12_nextToken) := gdC (gd4 m19_0 m19_1 m19_2 m1_5 m19_3)
theorem ggX12_isNumber_X12_fails : GoodIn wsX12_isNumber wsX12_fails := gdC (gd1 m19_12)
theorem gX12_isNumber_X12_fails : GoodIn wsX12_isNumber (wsV RX12 159 RX12 yX12_fails wsX12_fails) := gdC (gd4 m19_9 m19_10 m19_11 m1_5 m19_12)
theorem dX12_isNumber_0 : decode cX12_isNumber 0 = .ok (.aload_n 0, 1) := by decide +kernel
theorem dX12_isNumber_1 : decode cX12_isNumber 1 = .ok (.invokevirtual 156, 3) := by decide +kernel
theorem dX12_isNumber_4 : decode cX12_isNumber 4 = .ok (.aload_n 0, 1) := by decide +kernel
theorem dX12_isNumber_5 : decode cX12_isNumber 5 = .ok (.getfield 139, 3) := by decide +kernel
theorem dX12_isNumber_8 : decode cX12_isNumber 8 = .ok (.ldc2_w 149, 3) := by decide +kernel
theorem dX12_isNumber_11 : decode cX12_isNumber 11 = .ok (.lcmp, 1) := by decide +kernel
theorem dX12_isNumber_12 : decode cX12_isNumber 12 = .ok (.ifCond .ne 11, 3) := by decide +kernel
theorem dX12_isNumber_15 : decode cX12_isNumber 15 = .ok (.aload_n 0, 1) := by decide +kernel
theorem dX12_isNumber_16 : decode cX12_isNumber 16 = .ok (.getfield 134, 3) := by decide +kernel
theorem dX12_isNumber_19 : decode cX12_isNumber 19 = .ok (.iload_n 2, 1) := by decide +kernel
theorem dX12_isNumber_20 : decode cX12_isNumber 20 = .ok (.if_icmp .le 8, 3) := by decide +kernel
theorem dX12_isNumber_23 : decode cX12_isNumber 23 = .ok (.aload_n 0, 1) := by decide +kernel
theorem dX12_isNumber_24 : decode cX12_isNumber 24 = .ok (.invokevirtual 159, 3) := by decide +kernel
theorem dX12_isNumber_27 : decode cX12_isNumber 27 = .ok (.ireturn, 1) := by decide +kernel
theorem dX12_isNumber_28 : decode cX12_isNumber 28 = .ok (.aload_n 0, 1) := by decide +kernel
theorem dX12_isNumber_29 : decode cX12_isNumber 29 = .ok (.getfield 31, 3) := by decide +kernel
theorem dX12_isNumber_32 : decode cX12_isNumber 32 = .ok (.iload_n 1, 1) := by decide +kernel
theorem dX12_isNumber_33 : decode cX12_isNumber 33 = .ok (.aload_n 0, 1) := by decide +kernel
theorem dX12_isNumber_34 : decode cX12_isNumber 34 = .ok (.getfield 134, 3) := by decide +kernel
theorem dX12_isNumber_37 : decode cX12_isNumber 37 = .ok (.iastore, 1) := by decide +kernel
theorem dX12_isNumber_38 : decode cX12_isNumber 38 = .ok (.iconst 1, 1) := by decide +kernel
theorem dX12_isNumber_39 : decode cX12_isNumber 39 = .ok (.ireturn, 1) := by decide +kernel
theorem ggX12_isWord_X12_nextToken : GoodIn wsX12_isWord wsX12_nextToken := gdC (gd1 m19_3)
theorem gX12_isWord_X12_nextToken : GoodIn wsX12_isWord (wsV RX12 156 RX12 yX12_nextToken wsX12_nextToken) := gdC (gd4 m19_0 m19_1 m19_2 m1_5 m19_3)
theorem ggX12_isWord_X12_fails : GoodIn wsX12_isWord wsX12_fails := gdC (gd1 m19_12)
theorem gX12_isWord_X12_fails : GoodIn wsX12_isWord (wsV RX12 159 RX12 yX12_fails wsX12_fails) := gdC (gd4 m19_9 m19_10 m19_11 m1_5 m19_12)
theorem dX12_isWord_0 : decode cX12_isWord 0 = .ok (.aload_n 0, 1) := by decide +kernel
theorem dX12_isWord_1 : decode cX12_isWord 1 = .ok (.invokevirtual 156, 3) := by decide +kernel
theorem dX12_isWord_4 : decode cX12_isWord 4 = .ok (.aload_n 0, 1) := by decide +kernel
theorem dX12_isWord_5 : decode cX12_isWord 5 = .ok (.getfield 139, 3) := by decide +kernel
theorem dX12_isWord_8 : decode cX12_isWord 8 = .ok (.lload_n 1, 1) := by decide +kernel
theorem dX12_isWord_9 : decode cX12_isWord 9 = .ok (.lcmp, 1) := by decide +kernel
theorem dX12_isWord_10 : decode cX12_isWord 10 = .ok (.ifCond .eq 10, 3) := by decide +kernel
theorem dX12_isWord_13 : decode cX12_isWord 13 = .ok (.aload_n 0, 1) := by decide +kernel
theorem dX12_isWord_14 : decode cX12_isWord 14 = .ok (.invokevirtual 159, 3) := by decide +kernel
theorem dX12_isWord_17 : decode cX12_isWord 17 = .ok (.ifCond .eq 7, 3) := by decide +kernel
theorem dX12_isWord_20 : decode cX12_isWord 20 = .ok (.iconst 1, 1) := by decide +kernel
theorem dX12_isWord_21 : decode cX12_isWord 21 = .ok (.goto 4, 3) := by decide +kernel
theorem dX12_isWord_24 : decode cX12_isWord 24 = .ok (.iconst 0, 1) := by decide +kernel
theorem dX12_isWord_25 : decode cX12_isWord 25 = .ok (.ireturn, 1) := by decide +kernel
theorem ggX12_isMove_X12_isNumber : GoodIn wsX12_isMove wsX12_isNumber := gdC (gd1 m18_23)
theorem gX12_isMove_X12_isNumber : GoodIn wsX12_isMove (wsV RX12 163 RX12 yX12_isNumber wsX12_isNumber) := gdC (gd4 m18_20 m18_21 m18_22 m1_5 m18_23)
theorem ggX12_isMove_X12_nextToken : GoodIn wsX12_isMove wsX12_nextToken := gdC (gd1 m19_3)
theorem gX12_isMove_X12_nextToken : GoodIn wsX12_isMove (wsV RX12 156 RX12 yX12_nextToken wsX12_nextToken) := gdC (gd4 m19_0 m19_1 m19_2 m1_5 m19_3)
theorem ggX12_isMove_X12_fails : GoodIn wsX12_isMove wsX12_fails := gdC (gd1 m19_12)
theorem gX12_isMove_X12_fails : GoodIn wsX12_isMove (wsV RX12 159 RX12 yX12_fails wsX12_fails) := gdC (gd4 m19_9 m19_10 m19_11 m1_5 m19_12)
theorem ggX12_isMove_X12_isWord : GoodIn wsX12_isMove wsX12_isWord := gdC (gd1 m19_16)
theorem gX12_isMove_X12_isWord : GoodIn wsX12_isMove (wsV RX12 171 RX12 yX12_isWord wsX12_isWord) := gdC (gd4 m19_13 m19_14 m19_15 m1_5 m19_16)
theorem dX12_isMove_0 : decode cX12_isMove 0 = .ok (.aload_n 0, 1) := by decide +kernel
theorem dX12_isMove_1 : decode cX12_isMove 1 = .ok (.iload_n 1, 1) := by decide +kernel
theorem dX12_isMove_2 : decode cX12_isMove 2 = .ok (.aload_n 0, 1) := by decide +kernel
theorem dX12_isMove_3 : decode cX12_isMove 3 = .ok (.getfield 7, 3) := by decide +kernel
theorem dX12_isMove_6 : decode cX12_isMove 6 = .ok (.iload_n 2, 1) := by decide +kernel
theorem dX12_isMove_7 : decode cX12_isMove 7 = .ok (.iaload, 1) := by decide +kernel
theorem dX12_isMove_8 : decode cX12_isMove 8 = .ok (.iconst 1, 1) := by decide +kernel
theorem dX12_isMove_9 : decode cX12_isMove 9 = .ok (.isub, 1) := by decide +kernel
theorem dX12_isMove_10 : decode cX12_isMove 10 = .ok (.invokevirtual 163, 3) := by decide +kernel
theorem dX12_isMove_13 : decode cX12_isMove 13 = .ok (.ifCond .ne 5, 3) := by decide +kernel
theorem dX12_isMove_16 : decode cX12_isMove 16 = .ok (.iconst 0, 1) := by decide +kernel
theorem dX12_isMove_17 : decode cX12_isMove 17 = .ok (.ireturn, 1) := by decide +kernel
theorem dX12_isMove_18 : decode cX12_isMove 18 = .ok (.aload_n 0, 1) := by decide +kernel
theorem dX12_isMove_19 : decode cX12_isMove 19 = .ok (.invokevirtual 156, 3) := by decide +kernel
theorem dX12_isMove_22 : decode cX12_isMove 22 = .ok (.aload_n 0, 1) := by decide +kernel
theorem dX12_isMove_23 : decode cX12_isMove 23 = .ok (.getfield 139, 3) := by decide +kernel
theorem dX12_isMove_26 : decode cX12_isMove 26 = .ok (.lconst 1, 1) := by decide +kernel
theorem dX12_isMove_27 : decode cX12_isMove 27 = .ok (.lcmp, 1) := by decide +kernel
theorem dX12_isMove_28 : decode cX12_isMove 28 = .ok (.ifCond .lt 14, 3) := by decide +kernel
theorem dX12_isMove_31 : decode cX12_isMove 31 = .ok (.aload_n 0, 1) := by decide +kernel
theorem dX12_isMove_32 : decode cX12_isMove 32 = .ok (.getfield 139, 3) := by decide +kernel
theorem dX12_isMove_35 : decode cX12_isMove 35 = .ok (.ldc2_w 167, 3) := by decide +kernel
theorem dX12_isMove_38 : decode cX12_isMove 38 = .ok (.lcmp, 1) := by decide +kernel
theorem dX12_isMove_39 : decode cX12_isMove 39 = .ok (.ifCond .le 8, 3) := by decide +kernel
theorem dX12_isMove_42 : decode cX12_isMove 42 = .ok (.aload_n 0, 1) := by decide +kernel
theorem dX12_isMove_43 : decode cX12_isMove 43 = .ok (.invokevirtual 159, 3) := by decide +kernel
theorem dX12_isMove_46 : decode cX12_isMove 46 = .ok (.ireturn, 1) := by decide +kernel
theorem dX12_isMove_47 : decode cX12_isMove 47 = .ok (.aload_n 0, 1) := by decide +kernel
theorem dX12_isMove_48 : decode cX12_isMove 48 = .ok (.getfield 139, 3) := by decide +kernel
theorem dX12_isMove_51 : decode cX12_isMove 51 = .ok (.l2i, 1) := by decide +kernel
theorem dX12_isMove_52 : decode cX12_isMove 52 = .ok (.iconst 1, 1) := by decide +kernel
theorem dX12_isMove_53 : decode cX12_isMove 53 = .ok (.isub, 1) := by decide +kernel
theorem dX12_isMove_54 : decode cX12_isMove 54 = .ok (.istore_n 3, 1) := by decide +kernel
theorem dX12_isMove_55 : decode cX12_isMove 55 = .ok (.aload_n 0, 1) := by decide +kernel
theorem dX12_isMove_56 : decode cX12_isMove 56 = .ok (.getfield 31, 3) := by decide +kernel
theorem dX12_isMove_59 : decode cX12_isMove 59 = .ok (.iload_n 1, 1) := by decide +kernel
theorem dX12_isMove_60 : decode cX12_isMove 60 = .ok (.iconst 1, 1) := by decide +kernel
theorem dX12_isMove_61 : decode cX12_isMove 61 = .ok (.iadd, 1) := by decide +kernel
theorem dX12_isMove_62 : decode cX12_isMove 62 = .ok (.iload_n 3, 1) := by decide +kernel
theorem dX12_isMove_63 : decode cX12_isMove 63 = .ok (.iastore, 1) := by decide +kernel
theorem dX12_isMove_64 : decode cX12_isMove 64 = .ok (.aload_n 0, 1) := by decide +kernel
theorem dX12_isMove_65 : decode cX12_isMove 65 = .ok (.getfield 31, 3) := by decide +kernel
theorem dX12_isMove_68 : decode cX12_isMove 68 = .ok (.iload_n 1, 1) := by decide +kernel
theorem dX12_isMove_69 : decode cX12_isMove 69 = .ok (.iconst 2, 1) := by decide +kernel
theorem dX12_isMove_70 : decode cX12_isMove 70 = .ok (.iadd, 1) := by decide +kernel
theorem dX12_isMove_71 : decode cX12_isMove 71 = .ok (.iconst 0, 1) := by decide +kernel
theorem dX12_isMove_72 : decode cX12_isMove 72 = .ok (.iastore, 1) := by decide +kernel
theorem dX12_isMove_73 : decode cX12_isMove 73 = .ok (.iload_n 3, 1) := by decide +kernel
theorem dX12_isMove_74 : decode cX12_isMove 74 = .ok (.iconst 4, 1) := by decide +kernel
theorem dX12_isMove_75 : decode cX12_isMove 75 = .ok (.if_icmp .ge 70, 3) := by decide +kernel
theorem dX12_isMove_78 : decode cX12_isMove 78 = .ok (.aload_n 0, 1) := by decide +kernel
theorem dX12_isMove_79 : decode cX12_isMove 79 = .ok (.ldc2_w 169, 3) := by decide +kernel
theorem dX12_isMove_82 : decode cX12_isMove 82 = .ok (.invokevirtual 171, 3) := by decide +kernel
theorem dX12_isMove_85 : decode cX12_isMove 85 = .ok (.ifCond .eq 58, 3) := by decide +kernel
theorem dX12_isMove_88 : decode cX12_isMove 88 = .ok (.aload_n 0, 1) := by decide +kernel
theorem dX12_isMove_89 : decode cX12_isMove 89 = .ok (.iload_n 1, 1) := by decide +kernel
theorem dX12_isMove_90 : decode cX12_isMove 90 = .ok (.iconst 3, 1) := by decide +kernel
theorem dX12_isMove_91 : decode cX12_isMove 91 = .ok (.iadd, 1) := by decide +kernel
theorem dX12_isMove_92 : decode cX12_isMove 92 = .ok (.aload_n 0, 1) := by decide +kernel
theorem dX12_isMove_93 : decode cX12_isMove 93 = .ok (.getfield 7, 3) := by decide +kernel
theorem dX12_isMove_96 : decode cX12_isMove 96 = .ok (.iload_n 2, 1) := by decide +kernel
theorem dX12_isMove_97 : decode cX12_isMove 97 = .ok (.iaload, 1) := by decide +kernel
theorem dX12_isMove_98 : decode cX12_isMove 98 = .ok (.iconst 1, 1) := by decide +kernel
theorem dX12_isMove_99 : decode cX12_isMove 99 = .ok (.isub, 1) := by decide +kernel
theorem dX12_isMove_100 : decode cX12_isMove 100 = .ok (.invokevirtual 163, 3) := by decide +kernel
theorem dX12_isMove_103 : decode cX12_isMove 103 = .ok (.ifCond .eq 40, 3) := by decide +kernel
theorem dX12_isMove_106 : decode cX12_isMove 106 = .ok (.iload_n 3, 1) := by decide +kernel
theorem dX12_isMove_107 : decode cX12_isMove 107 = .ok (.iconst 1, 1) := by decide +kernel
theorem dX12_isMove_108 : decode cX12_isMove 108 = .ok (.if_icmp .gt 31, 3) := by decide +kernel
theorem dX12_isMove_111 : decode cX12_isMove 111 = .ok (.aload_n 0, 1) := by decide +kernel
theorem dX12_isMove_112 : decode cX12_isMove 112 = .ok (.ldc2_w 175, 3) := by decide +kernel
theorem dX12_isMove_115 : decode cX12_isMove 115 = .ok (.invokevirtual 171, 3) := by decide +kernel
theorem dX12_isMove_118 : decode cX12_isMove 118 = .ok (.ifCond .eq 25, 3) := by decide +kernel
theorem dX12_isMove_121 : decode cX12_isMove 121 = .ok (.aload_n 0, 1) := by decide +kernel
theorem dX12_isMove_122 : decode cX12_isMove 122 = .ok (.iload_n 1, 1) := by decide +kernel
theorem dX12_isMove_123 : decode cX12_isMove 123 = .ok (.iconst 2, 1) := by decide +kernel
theorem dX12_isMove_124 : decode cX12_isMove 124 = .ok (.iadd, 1) := by decide +kernel
theorem dX12_isMove_125 : decode cX12_isMove 125 = .ok (.aload_n 0, 1) := by decide +kernel
theorem dX12_isMove_126 : decode cX12_isMove 126 = .ok (.getfield 13, 3) := by decide +kernel
theorem dX12_isMove_129 : decode cX12_isMove 129 = .ok (.iload_n 2, 1) := by decide +kernel
theorem dX12_isMove_130 : decode cX12_isMove 130 = .ok (.iaload, 1) := by decide +kernel
theorem dX12_isMove_131 : decode cX12_isMove 131 = .ok (.iconst 1, 1) := by decide +kernel
theorem dX12_isMove_132 : decode cX12_isMove 132 = .ok (.isub, 1) := by decide +kernel
theorem dX12_isMove_133 : decode cX12_isMove 133 = .ok (.invokevirtual 163, 3) := by decide +kernel
theorem dX12_isMove_136 : decode cX12_isMove 136 = .ok (.ifCond .eq 7, 3) := by decide +kernel
theorem dX12_isMove_139 : decode cX12_isMove 139 = .ok (.iconst 1, 1) := by decide +kernel
theorem dX12_isMove_140 : decode cX12_isMove 140 = .ok (.goto 4, 3) := by decide +kernel
theorem dX12_isMove_143 : decode cX12_isMove 143 = .ok (.iconst 0, 1) := by decide +kernel
theorem dX12_isMove_144 : decode cX12_isMove 144 = .ok (.ireturn, 1) := by decide +kernel
theorem dX12_isMove_145 : decode cX12_isMove 145 = .ok (.aload_n 0, 1) := by decide +kernel
theorem dX12_isMove_146 : decode cX12_isMove 146 = .ok (.ldc2_w 177, 3) := by decide +kernel
theorem dX12_isMove_149 : decode cX12_isMove 149 = .ok (.invokevirtual 171, 3) := by decide +kernel
theorem dX12_isMove_152 : decode cX12_isMove 152 = .ok (.ifCond .ne 5, 3) := by decide +kernel
theorem dX12_isMove_155 : decode cX12_isMove 155 = .ok (.iconst 0, 1) := by decide +kernel
theorem dX12_isMove_156 : decode cX12_isMove 156 = .ok (.ireturn, 1) := by decide +kernel
theorem dX12_isMove_157 : decode cX12_isMove 157 = .ok (.aload_n 0, 1) := by decide +kernel
theorem dX12_isMove_158 : decode cX12_isMove 158 = .ok (.invokevirtual 156, 3) := by decide +kernel
theorem dX12_isMove_161 : decode cX12_isMove 161 = .ok (.aload_n 0, 1) := by decide +kernel
theorem dX12_isMove_162 : decode cX12_isMove 162 = .ok (.getfield 139, 3) := by decide +kernel
theorem dX12_isMove_165 : decode cX12_isMove 165 = .ok (.ldc2_w 179, 3) := by decide +kernel
theorem dX12_isMove_168 : decode cX12_isMove 168 = .ok (.lcmp, 1) := by decide +kernel
theorem dX12_isMove_169 : decode cX12_isMove 169 = .ok (.ifCond .ne 15, 3) := by decide +kernel
theorem dX12_isMove_172 : decode cX12_isMove 172 = .ok (.aload_n 0, 1) := by decide +kernel
theorem dX12_isMove_173 : decode cX12_isMove 173 = .ok (.getfield 31, 3) := by decide +kernel
theorem dX12_isMove_176 : decode cX12_isMove 176 = .ok (.iload_n 1, 1) := by decide +kernel
theorem dX12_isMove_177 : decode cX12_isMove 177 = .ok (.iconst 2, 1) := by decide +kernel
theorem dX12_isMove_178 : decode cX12_isMove 178 = .ok (.iadd, 1) := by decide +kernel
theorem dX12_isMove_179 : decode cX12_isMove 179 = .ok (.iconst (-1), 1) := by decide +kernel
theorem dX12_isMove_180 : decode cX12_isMove 180 = .ok (.iastore, 1) := by decide +kernel
theorem dX12_isMove_181 : decode cX12_isMove 181 = .ok (.goto 47, 3) := by decide +kernel
theorem dX12_isMove_184 : decode cX12_isMove 184 = .ok (.aload_n 0, 1) := by decide +kernel
theorem dX12_isMove_185 : decode cX12_isMove 185 = .ok (.getfield 139, 3) := by decide +kernel
theorem dX12_isMove_188 : decode cX12_isMove 188 = .ok (.ldc2_w 149, 3) := by decide +kernel
theorem dX12_isMove_191 : decode cX12_isMove 191 = .ok (.lcmp, 1) := by decide +kernel
theorem dX12_isMove_192 : decode cX12_isMove 192 = .ok (.ifCond .ne 31, 3) := by decide +kernel
theorem dX12_isMove_195 : decode cX12_isMove 195 = .ok (.aload_n 0, 1) := by decide +kernel
theorem dX12_isMove_196 : decode cX12_isMove 196 = .ok (.getfield 134, 3) := by decide +kernel
theorem dX12_isMove_199 : decode cX12_isMove 199 = .ok (.aload_n 0, 1) := by decide +kernel
theorem dX12_isMove_200 : decode cX12_isMove 200 = .ok (.getfield 13, 3) := by decide +kernel
theorem dX12_isMove_203 : decode cX12_isMove 203 = .ok (.iload_n 2, 1) := by decide +kernel
theorem dX12_isMove_204 : decode cX12_isMove 204 = .ok (.iaload, 1) := by decide +kernel
theorem dX12_isMove_205 : decode cX12_isMove 205 = .ok (.if_icmp .ge 18, 3) := by decide +kernel
theorem dX12_isMove_208 : decode cX12_isMove 208 = .ok (.aload_n 0, 1) := by decide +kernel
theorem dX12_isMove_209 : decode cX12_isMove 209 = .ok (.getfield 31, 3) := by decide +kernel
theorem dX12_isMove_212 : decode cX12_isMove 212 = .ok (.iload_n 1, 1) := by decide +kernel
theorem dX12_isMove_213 : decode cX12_isMove 213 = .ok (.iconst 2, 1) := by decide +kernel
theorem dX12_isMove_214 : decode cX12_isMove 214 = .ok (.iadd, 1) := by decide +kernel
theorem dX12_isMove_215 : decode cX12_isMove 215 = .ok (.aload_n 0, 1) := by decide +kernel
theorem dX12_isMove_216 : decode cX12_isMove 216 = .ok (.getfield 134, 3) := by decide +kernel
theorem dX12_isMove_219 : decode cX12_isMove 219 = .ok (.iastore, 1) := by decide +kernel
theorem dX12_isMove_220 : decode cX12_isMove 220 = .ok (.goto 8, 3) := by decide +kernel
theorem dX12_isMove_223 : decode cX12_isMove 223 = .ok (.aload_n 0, 1) := by decide +kernel
theorem dX12_isMove_224 : decode cX12_isMove 224 = .ok (.invokevirtual 159, 3) := by decide +kernel
theorem dX12_isMove_227 : decode cX12_isMove 227 = .ok (.ireturn, 1) := by decide +kernel
theorem dX12_isMove_228 : decode cX12_isMove 228 = .ok (.aload_n 0, 1) := by decide +kernel
theorem dX12_isMove_229 : decode cX12_isMove 229 = .ok (.ldc2_w 169, 3) := by decide +kernel
theorem dX12_isMove_232 : decode cX12_isMove 232 = .ok (.invokevirtual 171, 3) := by decide +kernel
theorem dX12_isMove_235 : decode cX12_isMove 235 = .ok (.ifCond .eq 25, 3) := by decide +kernel
theorem dX12_isMove_238 : decode cX12_isMove 238 = .ok (.aload_n 0, 1) := by decide +kernel
theorem dX12_isMove_239 : decode cX12_isMove 239 = .ok (.iload_n 1, 1) := by decide +kernel
theorem dX12_isMove_240 : decode cX12_isMove 240 = .ok (.iconst 3, 1) := by decide +kernel
theorem dX12_isMove_241 : decode cX12_isMove 241 = .ok (.iadd, 1) := by decide +kernel
theorem dX12_isMove_242 : decode cX12_isMove 242 = .ok (.aload_n 0, 1) := by decide +kernel
theorem dX12_isMove_243 : decode cX12_isMove 243 = .ok (.getfield 7, 3) := by decide +kernel
theorem dX12_isMove_246 : decode cX12_isMove 246 = .ok (.iload_n 2, 1) := by decide +kernel
theorem dX12_isMove_247 : decode cX12_isMove 247 = .ok (.iaload, 1) := by decide +kernel
theorem dX12_isMove_248 : decode cX12_isMove 248 = .ok (.iconst 1, 1) := by decide +kernel
theorem dX12_isMove_249 : decode cX12_isMove 249 = .ok (.isub, 1) := by decide +kernel
theorem dX12_isMove_250 : decode cX12_isMove 250 = .ok (.invokevirtual 163, 3) := by decide +kernel
theorem dX12_isMove_253 : decode cX12_isMove 253 = .ok (.ifCond .eq 7, 3) := by decide +kernel
theorem dX12_isMove_256 : decode cX12_isMove 256 = .ok (.iconst 1, 1) := by decide +kernel
theorem dX12_isMove_257 : decode cX12_isMove 257 = .ok (.goto 4, 3) := by decide +kernel
theorem dX12_isMove_260 : decode cX12_isMove 260 = .ok (.iconst 0, 1) := by decide +kernel
theorem dX12_isMove_261 : decode cX12_isMove 261 = .ok (.ireturn, 1) := by decide +kernel
theorem ggX12_isRead_X12_isMove : GoodIn wsX12_isRead wsX12_isMove := gdC (gd1 m18_12)
theorem gX12_isRead_X12_isMove : GoodIn wsX12_isRead (wsV RX12 184 RX12 yX12_isMove wsX12_isMove) := gdC (gd4 m18_9 m18_10 m18_11 m1_5 m18_12)
theorem ggX12_isRead_X12_nextToken : GoodIn wsX12_isRead wsX12_nextToken := gdC (gd1 m19_3)
theorem gX12_isRead_X12_nextToken : GoodIn wsX12_isRead (wsV RX12 156 RX12 yX12_nextToken wsX12_nextToken) := gdC (gd4 m19_0 m19_1 m19_2 m1_5 m19_3)
theorem ggX12_isRead_X12_fails : GoodIn wsX12_isRead wsX12_fails := gdC (gd1 m19_12)
theorem gX12_isRead_X12_fails : GoodIn wsX12_isRead (wsV RX12 159 RX12 yX12_fails wsX12_fails) := gdC (gd4 m19_9 m19_10 m19_11 m1_5 m19_12)
theorem dX12_isRead_0 : decode cX12_isRead 0 = .ok (.aload_n 0, 1) := by decide +kernel
theorem dX12_isRead_1 : decode cX12_isRead 1 = .ok (.iconst 0, 1) := by decide +kernel
theorem dX12_isRead_2 : decode cX12_isRead 2 = .ok (.putfield 125, 3) := by decide +kernel
theorem dX12_isRead_5 : decode cX12_isRead 5 = .ok (.aload_n 0, 1) := by decide +kernel
theorem dX12_isRead_6 : decode cX12_isRead 6 = .ok (.iconst 0, 1) := by decide +kernel
theorem dX12_isRead_7 : decode cX12_isRead 7 = .ok (.putfield 181, 3) := by decide +kernel
theorem dX12_isRead_10 : decode cX12_isRead 10 = .ok (.iconst 1, 1) := by decide +kernel
theorem dX12_isRead_11 : decode cX12_isRead 11 = .ok (.istore_n 2, 1) := by decide +kernel
theorem dX12_isRead_12 : decode cX12_isRead 12 = .ok (.iload_n 2, 1) := by decide +kernel
theorem dX12_isRead_13 : decode cX12_isRead 13 = .ok (.ifCond .eq 62, 3) := by decide +kernel
theorem dX12_isRead_16 : decode cX12_isRead 16 = .ok (.aload_n 0, 1) := by decide +kernel
theorem dX12_isRead_17 : decode cX12_isRead 17 = .ok (.iconst 4, 1) := by decide +kernel
theorem dX12_isRead_18 : decode cX12_isRead 18 = .ok (.aload_n 0, 1) := by decide +kernel
theorem dX12_isRead_19 : decode cX12_isRead 19 = .ok (.getfield 181, 3) := by decide +kernel
theorem dX12_isRead_22 : decode cX12_isRead 22 = .ok (.imul, 1) := by decide +kernel
theorem dX12_isRead_23 : decode cX12_isRead 23 = .ok (.iload_n 1, 1) := by decide +kernel
theorem dX12_isRead_24 : decode cX12_isRead 24 = .ok (.invokevirtual 184, 3) := by decide +kernel
theorem dX12_isRead_27 : decode cX12_isRead 27 = .ok (.ifCond .ne 5, 3) := by decide +kernel
theorem dX12_isRead_30 : decode cX12_isRead 30 = .ok (.iconst 0, 1) := by decide +kernel
theorem dX12_isRead_31 : decode cX12_isRead 31 = .ok (.ireturn, 1) := by decide +kernel
theorem dX12_isRead_32 : decode cX12_isRead 32 = .ok (.aload_n 0, 1) := by decide +kernel
theorem dX12_isRead_33 : decode cX12_isRead 33 = .ok (.dup, 1) := by decide +kernel
theorem dX12_isRead_34 : decode cX12_isRead 34 = .ok (.getfield 181, 3) := by decide +kernel
theorem dX12_isRead_37 : decode cX12_isRead 37 = .ok (.iconst 1, 1) := by decide +kernel
theorem dX12_isRead_38 : decode cX12_isRead 38 = .ok (.iadd, 1) := by decide +kernel
theorem dX12_isRead_39 : decode cX12_isRead 39 = .ok (.putfield 181, 3) := by decide +kernel
theorem dX12_isRead_42 : decode cX12_isRead 42 = .ok (.aload_n 0, 1) := by decide +kernel
theorem dX12_isRead_43 : decode cX12_isRead 43 = .ok (.invokevirtual 156, 3) := by decide +kernel
theorem dX12_isRead_46 : decode cX12_isRead 46 = .ok (.aload_n 0, 1) := by decide +kernel
theorem dX12_isRead_47 : decode cX12_isRead 47 = .ok (.getfield 139, 3) := by decide +kernel
theorem dX12_isRead_50 : decode cX12_isRead 50 = .ok (.ldc2_w 151, 3) := by decide +kernel
theorem dX12_isRead_53 : decode cX12_isRead 53 = .ok (.lcmp, 1) := by decide +kernel
theorem dX12_isRead_54 : decode cX12_isRead 54 = .ok (.ifCond .ne 16, 3) := by decide +kernel
theorem dX12_isRead_57 : decode cX12_isRead 57 = .ok (.aload_n 0, 1) := by decide +kernel
theorem dX12_isRead_58 : decode cX12_isRead 58 = .ok (.getfield 181, 3) := by decide +kernel
theorem dX12_isRead_61 : decode cX12_isRead 61 = .ok (.bipush 16, 2) := by decide +kernel
theorem dX12_isRead_63 : decode cX12_isRead 63 = .ok (.if_icmp .ge 7, 3) := by decide +kernel
theorem dX12_isRead_66 : decode cX12_isRead 66 = .ok (.iconst 1, 1) := by decide +kernel
theorem dX12_isRead_67 : decode cX12_isRead 67 = .ok (.goto 4, 3) := by decide +kernel
theorem dX12_isRead_70 : decode cX12_isRead 70 = .ok (.iconst 0, 1) := by decide +kernel
theorem dX12_isRead_71 : decode cX12_isRead 71 = .ok (.istore_n 2, 1) := by decide +kernel
theorem dX12_isRead_72 : decode cX12_isRead 72 = .ok (.goto (-60), 3) := by decide +kernel
theorem dX12_isRead_75 : decode cX12_isRead 75 = .ok (.aload_n 0, 1) := by decide +kernel
theorem dX12_isRead_76 : decode cX12_isRead 76 = .ok (.getfield 139, 3) := by decide +kernel
theorem dX12_isRead_79 : decode cX12_isRead 79 = .ok (.ldc2_w 137, 3) := by decide +kernel
theorem dX12_isRead_82 : decode cX12_isRead 82 = .ok (.lcmp, 1) := by decide +kernel
theorem dX12_isRead_83 : decode cX12_isRead 83 = .ok (.ifCond .eq 10, 3) := by decide +kernel
theorem dX12_isRead_86 : decode cX12_isRead 86 = .ok (.aload_n 0, 1) := by decide +kernel
theorem dX12_isRead_87 : decode cX12_isRead 87 = .ok (.invokevirtual 159, 3) := by decide +kernel
theorem dX12_isRead_90 : decode cX12_isRead 90 = .ok (.ifCond .eq 7, 3) := by decide +kernel
theorem dX12_isRead_93 : decode cX12_isRead 93 = .ok (.iconst 1, 1) := by decide +kernel
theorem dX12_isRead_94 : decode cX12_isRead 94 = .ok (.goto 4, 3) := by decide +kernel
theorem dX12_isRead_97 : decode cX12_isRead 97 = .ok (.iconst 0, 1) := by decide +kernel
theorem dX12_isRead_98 : decode cX12_isRead 98 = .ok (.ireturn, 1) := by decide +kernel
theorem ggX12_fault_X12_isReader : GoodIn wsX12_fault wsX12_isReader := gdC (gd1 m11_2)
theorem gX12_fault_X12_isReader : GoodIn wsX12_fault (va_wsS RX12 116 yX12_isReader wsX12_isReader) := gdC (gd3 m11_0 m11_1 m1_5 m11_2)
theorem ggX12_fault_X12_isRead : GoodIn wsX12_fault wsX12_isRead := gdC (gd1 m18_3)
theorem gX12_fault_X12_isRead : GoodIn wsX12_fault (wsV RX12 187 RX12 yX12_isRead wsX12_isRead) := gdC (gd4 m18_0 m18_1 m18_2 m1_5 m18_3)
theorem dX12_fault_0 : decode cX12_fault 0 = .ok (.iload_n 1, 1) := by decide +kernel
theorem dX12_fault_1 : decode cX12_fault 1 = .ok (.invokestatic 116, 3) := by decide +kernel
theorem dX12_fault_4 : decode cX12_fault 4 = .ok (.ifCond .ne 6, 3) := by decide +kernel
theorem dX12_fault_7 : decode cX12_fault 7 = .ok (.bipush (-2), 2) := by decide +kernel
theorem dX12_fault_9 : decode cX12_fault 9 = .ok (.ireturn, 1) := by decide +kernel
theorem dX12_fault_10 : decode cX12_fault 10 = .ok (.aload_n 0, 1) := by decide +kernel
theorem dX12_fault_11 : decode cX12_fault 11 = .ok (.iload_n 1, 1) := by decide +kernel
theorem dX12_fault_12 : decode cX12_fault 12 = .ok (.invokevirtual 187, 3) := by decide +kernel
theorem dX12_fault_15 : decode cX12_fault 15 = .ok (.ifCond .eq 7, 3) := by decide +kernel
theorem dX12_fault_18 : decode cX12_fault 18 = .ok (.iconst (-1), 1) := by decide +kernel
theorem dX12_fault_19 : decode cX12_fault 19 = .ok (.goto 7, 3) := by decide +kernel
theorem dX12_fault_22 : decode cX12_fault 22 = .ok (.aload_n 0, 1) := by decide +kernel
theorem dX12_fault_23 : decode cX12_fault 23 = .ok (.getfield 153, 3) := by decide +kernel
theorem dX12_fault_26 : decode cX12_fault 26 = .ok (.ireturn, 1) := by decide +kernel
theorem dX12_bits_0 : decode cX12_bits 0 = .ok (.iconst 0, 1) := by decide +kernel
theorem dX12_bits_1 : decode cX12_bits 1 = .ok (.istore_n 1, 1) := by decide +kernel
theorem dX12_bits_2 : decode cX12_bits 2 = .ok (.iconst 0, 1) := by decide +kernel
theorem dX12_bits_3 : decode cX12_bits 3 = .ok (.istore_n 2, 1) := by decide +kernel
theorem dX12_bits_4 : decode cX12_bits 4 = .ok (.iload_n 2, 1) := by decide +kernel
theorem dX12_bits_5 : decode cX12_bits 5 = .ok (.iconst 3, 1) := by decide +kernel
theorem dX12_bits_6 : decode cX12_bits 6 = .ok (.if_icmp .ge 17, 3) := by decide +kernel
theorem dX12_bits_9 : decode cX12_bits 9 = .ok (.iload_n 1, 1) := by decide +kernel
theorem dX12_bits_10 : decode cX12_bits 10 = .ok (.iload_n 0, 1) := by decide +kernel
theorem dX12_bits_11 : decode cX12_bits 11 = .ok (.iload_n 2, 1) := by decide +kernel
theorem dX12_bits_12 : decode cX12_bits 12 = .ok (.ishr, 1) := by decide +kernel
theorem dX12_bits_13 : decode cX12_bits 13 = .ok (.iconst 1, 1) := by decide +kernel
theorem dX12_bits_14 : decode cX12_bits 14 = .ok (.iand, 1) := by decide +kernel
theorem dX12_bits_15 : decode cX12_bits 15 = .ok (.iadd, 1) := by decide +kernel
theorem dX12_bits_16 : decode cX12_bits 16 = .ok (.istore_n 1, 1) := by decide +kernel
theorem dX12_bits_17 : decode cX12_bits 17 = .ok (.iinc 2 1, 3) := by decide +kernel
theorem dX12_bits_20 : decode cX12_bits 20 = .ok (.goto (-16), 3) := by decide +kernel
theorem dX12_bits_23 : decode cX12_bits 23 = .ok (.iload_n 1, 1) := by decide +kernel
theorem dX12_bits_24 : decode cX12_bits 24 = .ok (.ireturn, 1) := by decide +kernel
theorem ggX12_movesOf_X12_bits : GoodIn wsX12_movesOf wsX12_bits := gdC (gd1 m21_11)
theorem gX12_movesOf_X12_bits : GoodIn wsX12_movesOf (va_wsS RX12 190 yX12_bits wsX12_bits) := gdC (gd3 m21_9 m21_10 m1_5 m21_11)
theorem dX12_movesOf_0 : decode cX12_movesOf 0 = .ok (.iconst 0, 1) := by decide +kernel
theorem dX12_movesOf_1 : decode cX12_movesOf 1 = .ok (.istore_n 2, 1) := by decide +kernel
theorem dX12_movesOf_2 : decode cX12_movesOf 2 = .ok (.iconst 0, 1) := by decide +kernel
theorem dX12_movesOf_3 : decode cX12_movesOf 3 = .ok (.istore_n 3, 1) := by decide +kernel
theorem dX12_movesOf_4 : decode cX12_movesOf 4 = .ok (.iload_n 3, 1) := by decide +kernel
theorem dX12_movesOf_5 : decode cX12_movesOf 5 = .ok (.bipush 12, 2) := by decide +kernel
theorem dX12_movesOf_7 : decode cX12_movesOf 7 = .ok (.if_icmp .ge 26, 3) := by decide +kernel
theorem dX12_movesOf_10 : decode cX12_movesOf 10 = .ok (.iload_n 2, 1) := by decide +kernel
theorem dX12_movesOf_11 : decode cX12_movesOf 11 = .ok (.aload_n 0, 1) := by decide +kernel
theorem dX12_movesOf_12 : decode cX12_movesOf 12 = .ok (.getfield 19, 3) := by decide +kernel
theorem dX12_movesOf_15 : decode cX12_movesOf 15 = .ok (.bipush 12, 2) := by decide +kernel
theorem dX12_movesOf_17 : decode cX12_movesOf 17 = .ok (.iload_n 1, 1) := by decide +kernel
theorem dX12_movesOf_18 : decode cX12_movesOf 18 = .ok (.imul, 1) := by decide +kernel
theorem dX12_movesOf_19 : decode cX12_movesOf 19 = .ok (.iload_n 3, 1) := by decide +kernel
theorem dX12_movesOf_20 : decode cX12_movesOf 20 = .ok (.iadd, 1) := by decide +kernel
theorem dX12_movesOf_21 : decode cX12_movesOf 21 = .ok (.iaload, 1) := by decide +kernel
theorem dX12_movesOf_22 : decode cX12_movesOf 22 = .ok (.invokestatic 190, 3) := by decide +kernel
theorem dX12_movesOf_25 : decode cX12_movesOf 25 = .ok (.iadd, 1) := by decide +kernel
theorem dX12_movesOf_26 : decode cX12_movesOf 26 = .ok (.istore_n 2, 1) := by decide +kernel
theorem dX12_movesOf_27 : decode cX12_movesOf 27 = .ok (.iinc 3 1, 3) := by decide +kernel
theorem dX12_movesOf_30 : decode cX12_movesOf 30 = .ok (.goto (-26), 3) := by decide +kernel
theorem dX12_movesOf_33 : decode cX12_movesOf 33 = .ok (.iconst 0, 1) := by decide +kernel
theorem dX12_movesOf_34 : decode cX12_movesOf 34 = .ok (.istore_n 3, 1) := by decide +kernel
theorem dX12_movesOf_35 : decode cX12_movesOf 35 = .ok (.iload_n 3, 1) := by decide +kernel
theorem dX12_movesOf_36 : decode cX12_movesOf 36 = .ok (.bipush 6, 2) := by decide +kernel
theorem dX12_movesOf_38 : decode cX12_movesOf 38 = .ok (.if_icmp .ge 26, 3) := by decide +kernel
theorem dX12_movesOf_41 : decode cX12_movesOf 41 = .ok (.iload_n 2, 1) := by decide +kernel
theorem dX12_movesOf_42 : decode cX12_movesOf 42 = .ok (.aload_n 0, 1) := by decide +kernel
theorem dX12_movesOf_43 : decode cX12_movesOf 43 = .ok (.getfield 22, 3) := by decide +kernel
theorem dX12_movesOf_46 : decode cX12_movesOf 46 = .ok (.bipush 6, 2) := by decide +kernel
theorem dX12_movesOf_48 : decode cX12_movesOf 48 = .ok (.iload_n 1, 1) := by decide +kernel
theorem dX12_movesOf_49 : decode cX12_movesOf 49 = .ok (.imul, 1) := by decide +kernel
theorem dX12_movesOf_50 : decode cX12_movesOf 50 = .ok (.iload_n 3, 1) := by decide +kernel
theorem dX12_movesOf_51 : decode cX12_movesOf 51 = .ok (.iadd, 1) := by decide +kernel
theorem dX12_movesOf_52 : decode cX12_movesOf 52 = .ok (.iaload, 1) := by decide +kernel
theorem dX12_movesOf_53 : decode cX12_movesOf 53 = .ok (.invokestatic 190, 3) := by decide +kernel
theorem dX12_movesOf_56 : decode cX12_movesOf 56 = .ok (.iadd, 1) := by decide +kernel
theorem dX12_movesOf_57 : decode cX12_movesOf 57 = .ok (.istore_n 2, 1) := by decide +kernel
theorem dX12_movesOf_58 : decode cX12_movesOf 58 = .ok (.iinc 3 1, 3) := by decide +kernel
theorem dX12_movesOf_61 : decode cX12_movesOf 61 = .ok (.goto (-26), 3) := by decide +kernel
theorem dX12_movesOf_64 : decode cX12_movesOf 64 = .ok (.iconst 0, 1) := by decide +kernel
theorem dX12_movesOf_65 : decode cX12_movesOf 65 = .ok (.istore_n 3, 1) := by decide +kernel
theorem dX12_movesOf_66 : decode cX12_movesOf 66 = .ok (.iload_n 3, 1) := by decide +kernel
theorem dX12_movesOf_67 : decode cX12_movesOf 67 = .ok (.bipush 18, 2) := by decide +kernel
theorem dX12_movesOf_69 : decode cX12_movesOf 69 = .ok (.if_icmp .ge 26, 3) := by decide +kernel
theorem dX12_movesOf_72 : decode cX12_movesOf 72 = .ok (.iload_n 2, 1) := by decide +kernel
theorem dX12_movesOf_73 : decode cX12_movesOf 73 = .ok (.aload_n 0, 1) := by decide +kernel
theorem dX12_movesOf_74 : decode cX12_movesOf 74 = .ok (.getfield 25, 3) := by decide +kernel
theorem dX12_movesOf_77 : decode cX12_movesOf 77 = .ok (.bipush 18, 2) := by decide +kernel
theorem dX12_movesOf_79 : decode cX12_movesOf 79 = .ok (.iload_n 1, 1) := by decide +kernel
theorem dX12_movesOf_80 : decode cX12_movesOf 80 = .ok (.imul, 1) := by decide +kernel
theorem dX12_movesOf_81 : decode cX12_movesOf 81 = .ok (.iload_n 3, 1) := by decide +kernel
theorem dX12_movesOf_82 : decode cX12_movesOf 82 = .ok (.iadd, 1) := by decide +kernel
theorem dX12_movesOf_83 : decode cX12_movesOf 83 = .ok (.iaload, 1) := by decide +kernel
theorem dX12_movesOf_84 : decode cX12_movesOf 84 = .ok (.invokestatic 190, 3) := by decide +kernel
theorem dX12_movesOf_87 : decode cX12_movesOf 87 = .ok (.iadd, 1) := by decide +kernel
theorem dX12_movesOf_88 : decode cX12_movesOf 88 = .ok (.istore_n 2, 1) := by decide +kernel
theorem dX12_movesOf_89 : decode cX12_movesOf 89 = .ok (.iinc 3 1, 3) := by decide +kernel
theorem dX12_movesOf_92 : decode cX12_movesOf 92 = .ok (.goto (-26), 3) := by decide +kernel
theorem dX12_movesOf_95 : decode cX12_movesOf 95 = .ok (.iload_n 2, 1) := by decide +kernel
theorem dX12_movesOf_96 : decode cX12_movesOf 96 = .ok (.ireturn, 1) := by decide +kernel
theorem ggX12_tos_X12_putAt : GoodIn wsX12_tos wsX12_putAt := gdC (gd1 m20_18)
theorem gX12_tos_X12_putAt : GoodIn wsX12_tos (va_wsS RX12 194 yX12_putAt wsX12_putAt) := gdC (gd3 m20_16 m20_17 m1_5 m20_18)
theorem ggX12_tos_X12_goAt : GoodIn wsX12_tos wsX12_goAt := gdC (gd1 m20_21)
theorem gX12_tos_X12_goAt : GoodIn wsX12_tos (va_wsS RX12 198 yX12_goAt wsX12_goAt) := gdC (gd3 m20_19 m20_20 m1_5 m20_21)
theorem ggX12_tos_X12_closeAt : GoodIn wsX12_tos wsX12_closeAt := gdC (gd1 m21_0)
theorem gX12_tos_X12_closeAt : GoodIn wsX12_tos (va_wsS RX12 202 yX12_closeAt wsX12_closeAt) := gdC (gd3 m20_22 m20_23 m1_5 m21_0)
theorem dX12_tos_0 : decode cX12_tos 0 = .ok (.iload_n 3, 1) := by decide +kernel
theorem dX12_tos_1 : decode cX12_tos 1 = .ok (.iconst 2, 1) := by decide +kernel
theorem dX12_tos_2 : decode cX12_tos 2 = .ok (.if_icmp .ge 19, 3) := by decide +kernel
theorem dX12_tos_5 : decode cX12_tos 5 = .ok (.aload_n 0, 1) := by decide +kernel
theorem dX12_tos_6 : decode cX12_tos 6 = .ok (.getfield 19, 3) := by decide +kernel
theorem dX12_tos_9 : decode cX12_tos 9 = .ok (.iload_n 1, 1) := by decide +kernel
theorem dX12_tos_10 : decode cX12_tos 10 = .ok (.iload_n 3, 1) := by decide +kernel
theorem dX12_tos_11 : decode cX12_tos 11 = .ok (.iload_n 2, 1) := by decide +kernel
theorem dX12_tos_12 : decode cX12_tos 12 = .ok (.iload 4, 2) := by decide +kernel
theorem dX12_tos_14 : decode cX12_tos 14 = .ok (.invokestatic 194, 3) := by decide +kernel
theorem dX12_tos_17 : decode cX12_tos 17 = .ok (.iaload, 1) := by decide +kernel
theorem dX12_tos_18 : decode cX12_tos 18 = .ok (.goto 35, 3) := by decide +kernel
theorem dX12_tos_21 : decode cX12_tos 21 = .ok (.iload_n 3, 1) := by decide +kernel
theorem dX12_tos_22 : decode cX12_tos 22 = .ok (.iconst 4, 1) := by decide +kernel
theorem dX12_tos_23 : decode cX12_tos 23 = .ok (.if_icmp .ge 17, 3) := by decide +kernel
theorem dX12_tos_26 : decode cX12_tos 26 = .ok (.aload_n 0, 1) := by decide +kernel
theorem dX12_tos_27 : decode cX12_tos 27 = .ok (.getfield 22, 3) := by decide +kernel
theorem dX12_tos_30 : decode cX12_tos 30 = .ok (.iload_n 1, 1) := by decide +kernel
theorem dX12_tos_31 : decode cX12_tos 31 = .ok (.iload_n 3, 1) := by decide +kernel
theorem dX12_tos_32 : decode cX12_tos 32 = .ok (.iload_n 2, 1) := by decide +kernel
theorem dX12_tos_33 : decode cX12_tos 33 = .ok (.invokestatic 198, 3) := by decide +kernel
theorem dX12_tos_36 : decode cX12_tos 36 = .ok (.iaload, 1) := by decide +kernel
theorem dX12_tos_37 : decode cX12_tos 37 = .ok (.goto 16, 3) := by decide +kernel
theorem dX12_tos_40 : decode cX12_tos 40 = .ok (.aload_n 0, 1) := by decide +kernel
theorem dX12_tos_41 : decode cX12_tos 41 = .ok (.getfield 25, 3) := by decide +kernel
theorem dX12_tos_44 : decode cX12_tos 44 = .ok (.iload_n 1, 1) := by decide +kernel
theorem dX12_tos_45 : decode cX12_tos 45 = .ok (.iload_n 3, 1) := by decide +kernel
theorem dX12_tos_46 : decode cX12_tos 46 = .ok (.iload_n 2, 1) := by decide +kernel
theorem dX12_tos_47 : decode cX12_tos 47 = .ok (.iload 4, 2) := by decide +kernel
theorem dX12_tos_49 : decode cX12_tos 49 = .ok (.invokestatic 202, 3) := by decide +kernel
theorem dX12_tos_52 : decode cX12_tos 52 = .ok (.iaload, 1) := by decide +kernel
theorem dX12_tos_53 : decode cX12_tos 53 = .ok (.ireturn, 1) := by decide +kernel
theorem ggX12_tell_X12_putAt : GoodIn wsX12_tell wsX12_putAt := gdC (gd1 m20_18)
theorem gX12_tell_X12_putAt : GoodIn wsX12_tell (va_wsS RX12 194 yX12_putAt wsX12_putAt) := gdC (gd3 m20_16 m20_17 m1_5 m20_18)
theorem ggX12_tell_X12_goAt : GoodIn wsX12_tell wsX12_goAt := gdC (gd1 m20_21)
theorem gX12_tell_X12_goAt : GoodIn wsX12_tell (va_wsS RX12 198 yX12_goAt wsX12_goAt) := gdC (gd3 m20_19 m20_20 m1_5 m20_21)
theorem ggX12_tell_X12_closeAt : GoodIn wsX12_tell wsX12_closeAt := gdC (gd1 m21_0)
theorem gX12_tell_X12_closeAt : GoodIn wsX12_tell (va_wsS RX12 202 yX12_closeAt wsX12_closeAt) := gdC (gd3 m20_22 m20_23 m1_5 m21_0)
theorem dX12_tell_0 : decode cX12_tell 0 = .ok (.iload_n 3, 1) := by decide +kernel
theorem dX12_tell_1 : decode cX12_tell 1 = .ok (.iconst 2, 1) := by decide +kernel
theorem dX12_tell_2 : decode cX12_tell 2 = .ok (.if_icmp .ge 21, 3) := by decide +kernel
theorem dX12_tell_5 : decode cX12_tell 5 = .ok (.aload_n 0, 1) := by decide +kernel
theorem dX12_tell_6 : decode cX12_tell 6 = .ok (.getfield 19, 3) := by decide +kernel
theorem dX12_tell_9 : decode cX12_tell 9 = .ok (.iload_n 1, 1) := by decide +kernel
theorem dX12_tell_10 : decode cX12_tell 10 = .ok (.iload_n 3, 1) := by decide +kernel
theorem dX12_tell_11 : decode cX12_tell 11 = .ok (.iload_n 2, 1) := by decide +kernel
theorem dX12_tell_12 : decode cX12_tell 12 = .ok (.iload 4, 2) := by decide +kernel
theorem dX12_tell_14 : decode cX12_tell 14 = .ok (.invokestatic 194, 3) := by decide +kernel
theorem dX12_tell_17 : decode cX12_tell 17 = .ok (.iload 5, 2) := by decide +kernel
theorem dX12_tell_19 : decode cX12_tell 19 = .ok (.iastore, 1) := by decide +kernel
theorem dX12_tell_20 : decode cX12_tell 20 = .ok (.goto 39, 3) := by decide +kernel
theorem dX12_tell_23 : decode cX12_tell 23 = .ok (.iload_n 3, 1) := by decide +kernel
theorem dX12_tell_24 : decode cX12_tell 24 = .ok (.iconst 4, 1) := by decide +kernel
theorem dX12_tell_25 : decode cX12_tell 25 = .ok (.if_icmp .ge 19, 3) := by decide +kernel
theorem dX12_tell_28 : decode cX12_tell 28 = .ok (.aload_n 0, 1) := by decide +kernel
theorem dX12_tell_29 : decode cX12_tell 29 = .ok (.getfield 22, 3) := by decide +kernel
theorem dX12_tell_32 : decode cX12_tell 32 = .ok (.iload_n 1, 1) := by decide +kernel
theorem dX12_tell_33 : decode cX12_tell 33 = .ok (.iload_n 3, 1) := by decide +kernel
theorem dX12_tell_34 : decode cX12_tell 34 = .ok (.iload_n 2, 1) := by decide +kernel
theorem dX12_tell_35 : decode cX12_tell 35 = .ok (.invokestatic 198, 3) := by decide +kernel
theorem dX12_tell_38 : decode cX12_tell 38 = .ok (.iload 5, 2) := by decide +kernel
theorem dX12_tell_40 : decode cX12_tell 40 = .ok (.iastore, 1) := by decide +kernel
theorem dX12_tell_41 : decode cX12_tell 41 = .ok (.goto 18, 3) := by decide +kernel
theorem dX12_tell_44 : decode cX12_tell 44 = .ok (.aload_n 0, 1) := by decide +kernel
theorem dX12_tell_45 : decode cX12_tell 45 = .ok (.getfield 25, 3) := by decide +kernel
theorem dX12_tell_48 : decode cX12_tell 48 = .ok (.iload_n 1, 1) := by decide +kernel
theorem dX12_tell_49 : decode cX12_tell 49 = .ok (.iload_n 3, 1) := by decide +kernel
