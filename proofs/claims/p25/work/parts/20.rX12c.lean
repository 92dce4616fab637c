theorem dX12_goRow_13 : decode cX12_goRow 13 = .ok (.iload_n 1, 1) := by decide +kernel
theorem dX12_goRow_14 : decode cX12_goRow 14 = .ok (.aload_n 0, 1) := by decide +kernel
theorem dX12_goRow_15 : decode cX12_goRow 15 = .ok (.getfield 34, 3) := by decide +kernel
theorem dX12_goRow_18 : decode cX12_goRow 18 = .ok (.iload_n 3, 1) := by decide +kernel
theorem dX12_goRow_19 : decode cX12_goRow 19 = .ok (.iaload, 1) := by decide +kernel
theorem dX12_goRow_20 : decode cX12_goRow 20 = .ok (.invokevirtual 270, 3) := by decide +kernel
theorem dX12_goRow_23 : decode cX12_goRow 23 = .ok (.iinc 3 1, 3) := by decide +kernel
theorem dX12_goRow_26 : decode cX12_goRow 26 = .ok (.goto (-19), 3) := by decide +kernel
theorem dX12_goRow_29 : decode cX12_goRow 29 = .ok (.return_, 1) := by decide +kernel
theorem dX12_doesTake_0 : decode cX12_doesTake 0 = .ok (.iload_n 2, 1) := by decide +kernel
theorem dX12_doesTake_1 : decode cX12_doesTake 1 = .ok (.iconst 3, 1) := by decide +kernel
theorem dX12_doesTake_2 : decode cX12_doesTake 2 = .ok (.iload_n 1, 1) := by decide +kernel
theorem dX12_doesTake_3 : decode cX12_doesTake 3 = .ok (.imul, 1) := by decide +kernel
theorem dX12_doesTake_4 : decode cX12_doesTake 4 = .ok (.ishr, 1) := by decide +kernel
theorem dX12_doesTake_5 : decode cX12_doesTake 5 = .ok (.aload_n 0, 1) := by decide +kernel
theorem dX12_doesTake_6 : decode cX12_doesTake 6 = .ok (.getfield 16, 3) := by decide +kernel
theorem dX12_doesTake_9 : decode cX12_doesTake 9 = .ok (.iload_n 1, 1) := by decide +kernel
theorem dX12_doesTake_10 : decode cX12_doesTake 10 = .ok (.iaload, 1) := by decide +kernel
theorem dX12_doesTake_11 : decode cX12_doesTake 11 = .ok (.iand, 1) := by decide +kernel
theorem dX12_doesTake_12 : decode cX12_doesTake 12 = .ok (.ifCond .eq 7, 3) := by decide +kernel
theorem dX12_doesTake_15 : decode cX12_doesTake 15 = .ok (.iconst 1, 1) := by decide +kernel
theorem dX12_doesTake_16 : decode cX12_doesTake 16 = .ok (.goto 4, 3) := by decide +kernel
theorem dX12_doesTake_19 : decode cX12_doesTake 19 = .ok (.iconst 0, 1) := by decide +kernel
theorem dX12_doesTake_20 : decode cX12_doesTake 20 = .ok (.ireturn, 1) := by decide +kernel
theorem ggX12_countRuns_X12_toItself : GoodIn wsX12_countRuns wsX12_toItself := gdC (gd1 m30_15)
theorem gX12_countRuns_X12_toItself : GoodIn wsX12_countRuns (wsV RX12 274 RX12 yX12_toItself wsX12_toItself) := gdC (gd4 m30_12 m30_13 m30_14 m1_5 m30_15)
theorem ggX12_countRuns_X12_putAt : GoodIn wsX12_countRuns wsX12_putAt := gdC (gd1 m20_18)
theorem gX12_countRuns_X12_putAt : GoodIn wsX12_countRuns (va_wsS RX12 194 yX12_putAt wsX12_putAt) := gdC (gd3 m20_16 m20_17 m1_5 m20_18)
theorem ggX12_countRuns_X12_stepRuns : GoodIn wsX12_countRuns wsX12_stepRuns := gdC (gd1 m30_19)
theorem gX12_countRuns_X12_stepRuns : GoodIn wsX12_countRuns (wsV RX12 277 RX12 yX12_stepRuns wsX12_stepRuns) := gdC (gd4 m30_16 m30_17 m30_18 m1_5 m30_19)
theorem ggX12_countRuns_X12_goAt : GoodIn wsX12_countRuns wsX12_goAt := gdC (gd1 m20_21)
theorem gX12_countRuns_X12_goAt : GoodIn wsX12_countRuns (va_wsS RX12 198 yX12_goAt wsX12_goAt) := gdC (gd3 m20_19 m20_20 m1_5 m20_21)
theorem ggX12_countRuns_X12_stepWays : GoodIn wsX12_countRuns wsX12_stepWays := gdC (gd1 m30_23)
theorem gX12_countRuns_X12_stepWays : GoodIn wsX12_countRuns (wsV RX12 280 RX12 yX12_stepWays wsX12_stepWays) := gdC (gd4 m30_20 m30_21 m30_22 m1_5 m30_23)
theorem ggX12_countRuns_X12_letterOpen : GoodIn wsX12_countRuns wsX12_letterOpen := gdC (gd1 m31_3)
theorem gX12_countRuns_X12_letterOpen : GoodIn wsX12_countRuns (wsV RX12 283 RX12 yX12_letterOpen wsX12_letterOpen) := gdC (gd4 m31_0 m31_1 m31_2 m1_5 m31_3)
theorem ggX12_countRuns_X12_waysOver : GoodIn wsX12_countRuns wsX12_waysOver := gdC (gd1 m31_7)
theorem gX12_countRuns_X12_waysOver : GoodIn wsX12_countRuns (wsV RX12 286 RX12 yX12_waysOver wsX12_waysOver) := gdC (gd4 m31_4 m31_5 m31_6 m1_5 m31_7)
theorem ggX12_countRuns_X12_closeAt : GoodIn wsX12_countRuns wsX12_closeAt := gdC (gd1 m21_0)
theorem gX12_countRuns_X12_closeAt : GoodIn wsX12_countRuns (va_wsS RX12 202 yX12_closeAt wsX12_closeAt) := gdC (gd3 m20_22 m20_23 m1_5 m21_0)
theorem dX12_countRuns_0 : decode cX12_countRuns 0 = .ok (.iconst 0, 1) := by decide +kernel
theorem dX12_countRuns_1 : decode cX12_countRuns 1 = .ok (.istore_n 3, 1) := by decide +kernel
theorem dX12_countRuns_2 : decode cX12_countRuns 2 = .ok (.iconst 0, 1) := by decide +kernel
theorem dX12_countRuns_3 : decode cX12_countRuns 3 = .ok (.istore 4, 2) := by decide +kernel
theorem dX12_countRuns_5 : decode cX12_countRuns 5 = .ok (.iload 4, 2) := by decide +kernel
theorem dX12_countRuns_7 : decode cX12_countRuns 7 = .ok (.iconst 3, 1) := by decide +kernel
theorem dX12_countRuns_8 : decode cX12_countRuns 8 = .ok (.if_icmp .ge 26, 3) := by decide +kernel
theorem dX12_countRuns_11 : decode cX12_countRuns 11 = .ok (.aload_n 0, 1) := by decide +kernel
theorem dX12_countRuns_12 : decode cX12_countRuns 12 = .ok (.getfield 52, 3) := by decide +kernel
theorem dX12_countRuns_15 : decode cX12_countRuns 15 = .ok (.iload 4, 2) := by decide +kernel
theorem dX12_countRuns_17 : decode cX12_countRuns 17 = .ok (.iload 4, 2) := by decide +kernel
theorem dX12_countRuns_19 : decode cX12_countRuns 19 = .ok (.ifCond .ne 7, 3) := by decide +kernel
theorem dX12_countRuns_22 : decode cX12_countRuns 22 = .ok (.lconst 1, 1) := by decide +kernel
theorem dX12_countRuns_23 : decode cX12_countRuns 23 = .ok (.goto 4, 3) := by decide +kernel
theorem dX12_countRuns_26 : decode cX12_countRuns 26 = .ok (.lconst 0, 1) := by decide +kernel
theorem dX12_countRuns_27 : decode cX12_countRuns 27 = .ok (.lastore, 1) := by decide +kernel
theorem dX12_countRuns_28 : decode cX12_countRuns 28 = .ok (.iinc 4 1, 3) := by decide +kernel
theorem dX12_countRuns_31 : decode cX12_countRuns 31 = .ok (.goto (-26), 3) := by decide +kernel
theorem dX12_countRuns_34 : decode cX12_countRuns 34 = .ok (.aload_n 0, 1) := by decide +kernel
theorem dX12_countRuns_35 : decode cX12_countRuns 35 = .ok (.invokevirtual 274, 3) := by decide +kernel
theorem dX12_countRuns_38 : decode cX12_countRuns 38 = .ok (.iconst 0, 1) := by decide +kernel
theorem dX12_countRuns_39 : decode cX12_countRuns 39 = .ok (.istore 4, 2) := by decide +kernel
theorem dX12_countRuns_41 : decode cX12_countRuns 41 = .ok (.iload 4, 2) := by decide +kernel
theorem dX12_countRuns_43 : decode cX12_countRuns 43 = .ok (.iload_n 2, 1) := by decide +kernel
theorem dX12_countRuns_44 : decode cX12_countRuns 44 = .ok (.if_icmp .ge 429, 3) := by decide +kernel
theorem dX12_countRuns_47 : decode cX12_countRuns 47 = .ok (.aload_n 0, 1) := by decide +kernel
theorem dX12_countRuns_48 : decode cX12_countRuns 48 = .ok (.getfield 34, 3) := by decide +kernel
theorem dX12_countRuns_51 : decode cX12_countRuns 51 = .ok (.iload 4, 2) := by decide +kernel
theorem dX12_countRuns_53 : decode cX12_countRuns 53 = .ok (.iaload, 1) := by decide +kernel
theorem dX12_countRuns_54 : decode cX12_countRuns 54 = .ok (.istore 5, 2) := by decide +kernel
theorem dX12_countRuns_56 : decode cX12_countRuns 56 = .ok (.iload 5, 2) := by decide +kernel
theorem dX12_countRuns_58 : decode cX12_countRuns 58 = .ok (.iconst 2, 1) := by decide +kernel
theorem dX12_countRuns_59 : decode cX12_countRuns 59 = .ok (.if_icmp .ge 156, 3) := by decide +kernel
theorem dX12_countRuns_62 : decode cX12_countRuns 62 = .ok (.iconst 0, 1) := by decide +kernel
theorem dX12_countRuns_63 : decode cX12_countRuns 63 = .ok (.istore 6, 2) := by decide +kernel
theorem dX12_countRuns_65 : decode cX12_countRuns 65 = .ok (.iload 6, 2) := by decide +kernel
theorem dX12_countRuns_67 : decode cX12_countRuns 67 = .ok (.iconst 3, 1) := by decide +kernel
theorem dX12_countRuns_68 : decode cX12_countRuns 68 = .ok (.if_icmp .ge 27, 3) := by decide +kernel
theorem dX12_countRuns_71 : decode cX12_countRuns 71 = .ok (.aload_n 0, 1) := by decide +kernel
theorem dX12_countRuns_72 : decode cX12_countRuns 72 = .ok (.getfield 59, 3) := by decide +kernel
theorem dX12_countRuns_75 : decode cX12_countRuns 75 = .ok (.iconst 3, 1) := by decide +kernel
theorem dX12_countRuns_76 : decode cX12_countRuns 76 = .ok (.iload_n 3, 1) := by decide +kernel
theorem dX12_countRuns_77 : decode cX12_countRuns 77 = .ok (.imul, 1) := by decide +kernel
theorem dX12_countRuns_78 : decode cX12_countRuns 78 = .ok (.iload 6, 2) := by decide +kernel
theorem dX12_countRuns_80 : decode cX12_countRuns 80 = .ok (.iadd, 1) := by decide +kernel
theorem dX12_countRuns_81 : decode cX12_countRuns 81 = .ok (.aload_n 0, 1) := by decide +kernel
theorem dX12_countRuns_82 : decode cX12_countRuns 82 = .ok (.getfield 52, 3) := by decide +kernel
theorem dX12_countRuns_85 : decode cX12_countRuns 85 = .ok (.iload 6, 2) := by decide +kernel
theorem dX12_countRuns_87 : decode cX12_countRuns 87 = .ok (.laload, 1) := by decide +kernel
theorem dX12_countRuns_88 : decode cX12_countRuns 88 = .ok (.lastore, 1) := by decide +kernel
theorem dX12_countRuns_89 : decode cX12_countRuns 89 = .ok (.iinc 6 1, 3) := by decide +kernel
theorem dX12_countRuns_92 : decode cX12_countRuns 92 = .ok (.goto (-27), 3) := by decide +kernel
theorem dX12_countRuns_95 : decode cX12_countRuns 95 = .ok (.iconst 0, 1) := by decide +kernel
theorem dX12_countRuns_96 : decode cX12_countRuns 96 = .ok (.istore 6, 2) := by decide +kernel
theorem dX12_countRuns_98 : decode cX12_countRuns 98 = .ok (.iload 6, 2) := by decide +kernel
theorem dX12_countRuns_100 : decode cX12_countRuns 100 = .ok (.bipush 9, 2) := by decide +kernel
theorem dX12_countRuns_102 : decode cX12_countRuns 102 = .ok (.if_icmp .ge 28, 3) := by decide +kernel
theorem dX12_countRuns_105 : decode cX12_countRuns 105 = .ok (.aload_n 0, 1) := by decide +kernel
theorem dX12_countRuns_106 : decode cX12_countRuns 106 = .ok (.getfield 62, 3) := by decide +kernel
theorem dX12_countRuns_109 : decode cX12_countRuns 109 = .ok (.bipush 9, 2) := by decide +kernel
theorem dX12_countRuns_111 : decode cX12_countRuns 111 = .ok (.iload_n 3, 1) := by decide +kernel
theorem dX12_countRuns_112 : decode cX12_countRuns 112 = .ok (.imul, 1) := by decide +kernel
theorem dX12_countRuns_113 : decode cX12_countRuns 113 = .ok (.iload 6, 2) := by decide +kernel
theorem dX12_countRuns_115 : decode cX12_countRuns 115 = .ok (.iadd, 1) := by decide +kernel
theorem dX12_countRuns_116 : decode cX12_countRuns 116 = .ok (.aload_n 0, 1) := by decide +kernel
theorem dX12_countRuns_117 : decode cX12_countRuns 117 = .ok (.getfield 56, 3) := by decide +kernel
theorem dX12_countRuns_120 : decode cX12_countRuns 120 = .ok (.iload 6, 2) := by decide +kernel
theorem dX12_countRuns_122 : decode cX12_countRuns 122 = .ok (.laload, 1) := by decide +kernel
theorem dX12_countRuns_123 : decode cX12_countRuns 123 = .ok (.lastore, 1) := by decide +kernel
theorem dX12_countRuns_124 : decode cX12_countRuns 124 = .ok (.iinc 6 1, 3) := by decide +kernel
theorem dX12_countRuns_127 : decode cX12_countRuns 127 = .ok (.goto (-29), 3) := by decide +kernel
theorem dX12_countRuns_130 : decode cX12_countRuns 130 = .ok (.iinc 3 1, 3) := by decide +kernel
theorem dX12_countRuns_133 : decode cX12_countRuns 133 = .ok (.iconst 0, 1) := by decide +kernel
theorem dX12_countRuns_134 : decode cX12_countRuns 134 = .ok (.istore 6, 2) := by decide +kernel
theorem dX12_countRuns_136 : decode cX12_countRuns 136 = .ok (.iload 6, 2) := by decide +kernel
theorem dX12_countRuns_138 : decode cX12_countRuns 138 = .ok (.bipush 9, 2) := by decide +kernel
theorem dX12_countRuns_140 : decode cX12_countRuns 140 = .ok (.if_icmp .ge 64, 3) := by decide +kernel
theorem dX12_countRuns_143 : decode cX12_countRuns 143 = .ok (.aload_n 0, 1) := by decide +kernel
theorem dX12_countRuns_144 : decode cX12_countRuns 144 = .ok (.getfield 65, 3) := by decide +kernel
theorem dX12_countRuns_147 : decode cX12_countRuns 147 = .ok (.iload 6, 2) := by decide +kernel
theorem dX12_countRuns_149 : decode cX12_countRuns 149 = .ok (.aload_n 0, 1) := by decide +kernel
theorem dX12_countRuns_150 : decode cX12_countRuns 150 = .ok (.getfield 19, 3) := by decide +kernel
theorem dX12_countRuns_153 : decode cX12_countRuns 153 = .ok (.iload_n 1, 1) := by decide +kernel
theorem dX12_countRuns_154 : decode cX12_countRuns 154 = .ok (.iload 5, 2) := by decide +kernel
theorem dX12_countRuns_156 : decode cX12_countRuns 156 = .ok (.iload 6, 2) := by decide +kernel
theorem dX12_countRuns_158 : decode cX12_countRuns 158 = .ok (.iconst 3, 1) := by decide +kernel
theorem dX12_countRuns_159 : decode cX12_countRuns 159 = .ok (.idiv, 1) := by decide +kernel
theorem dX12_countRuns_160 : decode cX12_countRuns 160 = .ok (.iconst 0, 1) := by decide +kernel
theorem dX12_countRuns_161 : decode cX12_countRuns 161 = .ok (.invokestatic 194, 3) := by decide +kernel
theorem dX12_countRuns_164 : decode cX12_countRuns 164 = .ok (.iaload, 1) := by decide +kernel
theorem dX12_countRuns_165 : decode cX12_countRuns 165 = .ok (.iload 6, 2) := by decide +kernel
theorem dX12_countRuns_167 : decode cX12_countRuns 167 = .ok (.iconst 3, 1) := by decide +kernel
theorem dX12_countRuns_168 : decode cX12_countRuns 168 = .ok (.irem, 1) := by decide +kernel
theorem dX12_countRuns_169 : decode cX12_countRuns 169 = .ok (.ishr, 1) := by decide +kernel
theorem dX12_countRuns_170 : decode cX12_countRuns 170 = .ok (.iconst 1, 1) := by decide +kernel
theorem dX12_countRuns_171 : decode cX12_countRuns 171 = .ok (.iand, 1) := by decide +kernel
theorem dX12_countRuns_172 : decode cX12_countRuns 172 = .ok (.aload_n 0, 1) := by decide +kernel
theorem dX12_countRuns_173 : decode cX12_countRuns 173 = .ok (.getfield 19, 3) := by decide +kernel
theorem dX12_countRuns_176 : decode cX12_countRuns 176 = .ok (.iload_n 1, 1) := by decide +kernel
theorem dX12_countRuns_177 : decode cX12_countRuns 177 = .ok (.iload 5, 2) := by decide +kernel
theorem dX12_countRuns_179 : decode cX12_countRuns 179 = .ok (.iload 6, 2) := by decide +kernel
theorem dX12_countRuns_181 : decode cX12_countRuns 181 = .ok (.iconst 3, 1) := by decide +kernel
theorem dX12_countRuns_182 : decode cX12_countRuns 182 = .ok (.idiv, 1) := by decide +kernel
theorem dX12_countRuns_183 : decode cX12_countRuns 183 = .ok (.iconst 1, 1) := by decide +kernel
theorem dX12_countRuns_184 : decode cX12_countRuns 184 = .ok (.invokestatic 194, 3) := by decide +kernel
theorem dX12_countRuns_187 : decode cX12_countRuns 187 = .ok (.iaload, 1) := by decide +kernel
theorem dX12_countRuns_188 : decode cX12_countRuns 188 = .ok (.iload 6, 2) := by decide +kernel
theorem dX12_countRuns_190 : decode cX12_countRuns 190 = .ok (.iconst 3, 1) := by decide +kernel
theorem dX12_countRuns_191 : decode cX12_countRuns 191 = .ok (.irem, 1) := by decide +kernel
theorem dX12_countRuns_192 : decode cX12_countRuns 192 = .ok (.ishr, 1) := by decide +kernel
theorem dX12_countRuns_193 : decode cX12_countRuns 193 = .ok (.iconst 1, 1) := by decide +kernel
theorem dX12_countRuns_194 : decode cX12_countRuns 194 = .ok (.iand, 1) := by decide +kernel
theorem dX12_countRuns_195 : decode cX12_countRuns 195 = .ok (.iadd, 1) := by decide +kernel
theorem dX12_countRuns_196 : decode cX12_countRuns 196 = .ok (.i2l, 1) := by decide +kernel
theorem dX12_countRuns_197 : decode cX12_countRuns 197 = .ok (.lastore, 1) := by decide +kernel
theorem dX12_countRuns_198 : decode cX12_countRuns 198 = .ok (.iinc 6 1, 3) := by decide +kernel
theorem dX12_countRuns_201 : decode cX12_countRuns 201 = .ok (.goto (-65), 3) := by decide +kernel
theorem dX12_countRuns_204 : decode cX12_countRuns 204 = .ok (.aload_n 0, 1) := by decide +kernel
theorem dX12_countRuns_205 : decode cX12_countRuns 205 = .ok (.invokevirtual 277, 3) := by decide +kernel
theorem dX12_countRuns_208 : decode cX12_countRuns 208 = .ok (.aload_n 0, 1) := by decide +kernel
theorem dX12_countRuns_209 : decode cX12_countRuns 209 = .ok (.invokevirtual 274, 3) := by decide +kernel
theorem dX12_countRuns_212 : decode cX12_countRuns 212 = .ok (.goto 255, 3) := by decide +kernel
theorem dX12_countRuns_215 : decode cX12_countRuns 215 = .ok (.iload 5, 2) := by decide +kernel
theorem dX12_countRuns_217 : decode cX12_countRuns 217 = .ok (.iconst 4, 1) := by decide +kernel
theorem dX12_countRuns_218 : decode cX12_countRuns 218 = .ok (.if_icmp .ge 60, 3) := by decide +kernel
theorem dX12_countRuns_221 : decode cX12_countRuns 221 = .ok (.iconst 0, 1) := by decide +kernel
theorem dX12_countRuns_222 : decode cX12_countRuns 222 = .ok (.istore 6, 2) := by decide +kernel
theorem dX12_countRuns_224 : decode cX12_countRuns 224 = .ok (.iload 6, 2) := by decide +kernel
theorem dX12_countRuns_226 : decode cX12_countRuns 226 = .ok (.bipush 9, 2) := by decide +kernel
theorem dX12_countRuns_228 : decode cX12_countRuns 228 = .ok (.if_icmp .ge 39, 3) := by decide +kernel
theorem dX12_countRuns_231 : decode cX12_countRuns 231 = .ok (.aload_n 0, 1) := by decide +kernel
theorem dX12_countRuns_232 : decode cX12_countRuns 232 = .ok (.getfield 65, 3) := by decide +kernel
theorem dX12_countRuns_235 : decode cX12_countRuns 235 = .ok (.iload 6, 2) := by decide +kernel
theorem dX12_countRuns_237 : decode cX12_countRuns 237 = .ok (.aload_n 0, 1) := by decide +kernel
theorem dX12_countRuns_238 : decode cX12_countRuns 238 = .ok (.getfield 22, 3) := by decide +kernel
theorem dX12_countRuns_241 : decode cX12_countRuns 241 = .ok (.iload_n 1, 1) := by decide +kernel
theorem dX12_countRuns_242 : decode cX12_countRuns 242 = .ok (.iload 5, 2) := by decide +kernel
theorem dX12_countRuns_244 : decode cX12_countRuns 244 = .ok (.iload 6, 2) := by decide +kernel
theorem dX12_countRuns_246 : decode cX12_countRuns 246 = .ok (.iconst 3, 1) := by decide +kernel
theorem dX12_countRuns_247 : decode cX12_countRuns 247 = .ok (.idiv, 1) := by decide +kernel
theorem dX12_countRuns_248 : decode cX12_countRuns 248 = .ok (.invokestatic 198, 3) := by decide +kernel
theorem dX12_countRuns_251 : decode cX12_countRuns 251 = .ok (.iaload, 1) := by decide +kernel
theorem dX12_countRuns_252 : decode cX12_countRuns 252 = .ok (.iload 6, 2) := by decide +kernel
theorem dX12_countRuns_254 : decode cX12_countRuns 254 = .ok (.iconst 3, 1) := by decide +kernel
theorem dX12_countRuns_255 : decode cX12_countRuns 255 = .ok (.irem, 1) := by decide +kernel
theorem dX12_countRuns_256 : decode cX12_countRuns 256 = .ok (.ishr, 1) := by decide +kernel
theorem dX12_countRuns_257 : decode cX12_countRuns 257 = .ok (.iconst 1, 1) := by decide +kernel
theorem dX12_countRuns_258 : decode cX12_countRuns 258 = .ok (.iand, 1) := by decide +kernel
theorem dX12_countRuns_259 : decode cX12_countRuns 259 = .ok (.i2l, 1) := by decide +kernel
theorem dX12_countRuns_260 : decode cX12_countRuns 260 = .ok (.lastore, 1) := by decide +kernel
theorem dX12_countRuns_261 : decode cX12_countRuns 261 = .ok (.iinc 6 1, 3) := by decide +kernel
theorem dX12_countRuns_264 : decode cX12_countRuns 264 = .ok (.goto (-40), 3) := by decide +kernel
theorem dX12_countRuns_267 : decode cX12_countRuns 267 = .ok (.aload_n 0, 1) := by decide +kernel
theorem dX12_countRuns_268 : decode cX12_countRuns 268 = .ok (.invokevirtual 277, 3) := by decide +kernel
theorem dX12_countRuns_271 : decode cX12_countRuns 271 = .ok (.aload_n 0, 1) := by decide +kernel
theorem dX12_countRuns_272 : decode cX12_countRuns 272 = .ok (.invokevirtual 280, 3) := by decide +kernel
theorem dX12_countRuns_275 : decode cX12_countRuns 275 = .ok (.goto 192, 3) := by decide +kernel
theorem dX12_countRuns_278 : decode cX12_countRuns 278 = .ok (.iload_n 3, 1) := by decide +kernel
theorem dX12_countRuns_279 : decode cX12_countRuns 279 = .ok (.ifCond .le 133, 3) := by decide +kernel
theorem dX12_countRuns_282 : decode cX12_countRuns 282 = .ok (.iinc 3 (-1), 3) := by decide +kernel
theorem dX12_countRuns_285 : decode cX12_countRuns 285 = .ok (.aload_n 0, 1) := by decide +kernel
theorem dX12_countRuns_286 : decode cX12_countRuns 286 = .ok (.iload 4, 2) := by decide +kernel
theorem dX12_countRuns_288 : decode cX12_countRuns 288 = .ok (.invokevirtual 283, 3) := by decide +kernel
theorem dX12_countRuns_291 : decode cX12_countRuns 291 = .ok (.istore 6, 2) := by decide +kernel
theorem dX12_countRuns_293 : decode cX12_countRuns 293 = .ok (.iconst 0, 1) := by decide +kernel
theorem dX12_countRuns_294 : decode cX12_countRuns 294 = .ok (.istore 7, 2) := by decide +kernel
theorem dX12_countRuns_296 : decode cX12_countRuns 296 = .ok (.iload 7, 2) := by decide +kernel
theorem dX12_countRuns_298 : decode cX12_countRuns 298 = .ok (.bipush 9, 2) := by decide +kernel
theorem dX12_countRuns_300 : decode cX12_countRuns 300 = .ok (.if_icmp .ge 33, 3) := by decide +kernel
theorem dX12_countRuns_303 : decode cX12_countRuns 303 = .ok (.aload_n 0, 1) := by decide +kernel
theorem dX12_countRuns_304 : decode cX12_countRuns 304 = .ok (.getfield 65, 3) := by decide +kernel
theorem dX12_countRuns_307 : decode cX12_countRuns 307 = .ok (.iload 7, 2) := by decide +kernel
theorem dX12_countRuns_309 : decode cX12_countRuns 309 = .ok (.aload_n 0, 1) := by decide +kernel
theorem dX12_countRuns_310 : decode cX12_countRuns 310 = .ok (.iload_n 1, 1) := by decide +kernel
theorem dX12_countRuns_311 : decode cX12_countRuns 311 = .ok (.iload 6, 2) := by decide +kernel
theorem dX12_countRuns_313 : decode cX12_countRuns 313 = .ok (.iload 7, 2) := by decide +kernel
theorem dX12_countRuns_315 : decode cX12_countRuns 315 = .ok (.iconst 3, 1) := by decide +kernel
theorem dX12_countRuns_316 : decode cX12_countRuns 316 = .ok (.idiv, 1) := by decide +kernel
theorem dX12_countRuns_317 : decode cX12_countRuns 317 = .ok (.iload 5, 2) := by decide +kernel
theorem dX12_countRuns_319 : decode cX12_countRuns 319 = .ok (.iload 7, 2) := by decide +kernel
theorem dX12_countRuns_321 : decode cX12_countRuns 321 = .ok (.iconst 3, 1) := by decide +kernel
theorem dX12_countRuns_322 : decode cX12_countRuns 322 = .ok (.irem, 1) := by decide +kernel
theorem dX12_countRuns_323 : decode cX12_countRuns 323 = .ok (.invokevirtual 286, 3) := by decide +kernel
theorem dX12_countRuns_326 : decode cX12_countRuns 326 = .ok (.lastore, 1) := by decide +kernel
theorem dX12_countRuns_327 : decode cX12_countRuns 327 = .ok (.iinc 7 1, 3) := by decide +kernel
theorem dX12_countRuns_330 : decode cX12_countRuns 330 = .ok (.goto (-34), 3) := by decide +kernel
theorem dX12_countRuns_333 : decode cX12_countRuns 333 = .ok (.iconst 0, 1) := by decide +kernel
theorem dX12_countRuns_334 : decode cX12_countRuns 334 = .ok (.istore 7, 2) := by decide +kernel
theorem dX12_countRuns_336 : decode cX12_countRuns 336 = .ok (.iload 7, 2) := by decide +kernel
theorem dX12_countRuns_338 : decode cX12_countRuns 338 = .ok (.iconst 3, 1) := by decide +kernel
theorem dX12_countRuns_339 : decode cX12_countRuns 339 = .ok (.if_icmp .ge 27, 3) := by decide +kernel
theorem dX12_countRuns_342 : decode cX12_countRuns 342 = .ok (.aload_n 0, 1) := by decide +kernel
theorem dX12_countRuns_343 : decode cX12_countRuns 343 = .ok (.getfield 52, 3) := by decide +kernel
theorem dX12_countRuns_346 : decode cX12_countRuns 346 = .ok (.iload 7, 2) := by decide +kernel
theorem dX12_countRuns_348 : decode cX12_countRuns 348 = .ok (.aload_n 0, 1) := by decide +kernel
theorem dX12_countRuns_349 : decode cX12_countRuns 349 = .ok (.getfield 59, 3) := by decide +kernel
theorem dX12_countRuns_352 : decode cX12_countRuns 352 = .ok (.iconst 3, 1) := by decide +kernel
theorem dX12_countRuns_353 : decode cX12_countRuns 353 = .ok (.iload_n 3, 1) := by decide +kernel
theorem dX12_countRuns_354 : decode cX12_countRuns 354 = .ok (.imul, 1) := by decide +kernel
theorem dX12_countRuns_355 : decode cX12_countRuns 355 = .ok (.iload 7, 2) := by decide +kernel
theorem dX12_countRuns_357 : decode cX12_countRuns 357 = .ok (.iadd, 1) := by decide +kernel
theorem dX12_countRuns_358 : decode cX12_countRuns 358 = .ok (.laload, 1) := by decide +kernel
theorem dX12_countRuns_359 : decode cX12_countRuns 359 = .ok (.lastore, 1) := by decide +kernel
theorem dX12_countRuns_360 : decode cX12_countRuns 360 = .ok (.iinc 7 1, 3) := by decide +kernel
theorem dX12_countRuns_363 : decode cX12_countRuns 363 = .ok (.goto (-27), 3) := by decide +kernel
theorem dX12_countRuns_366 : decode cX12_countRuns 366 = .ok (.iconst 0, 1) := by decide +kernel
theorem dX12_countRuns_367 : decode cX12_countRuns 367 = .ok (.istore 7, 2) := by decide +kernel
theorem dX12_countRuns_369 : decode cX12_countRuns 369 = .ok (.iload 7, 2) := by decide +kernel
theorem dX12_countRuns_371 : decode cX12_countRuns 371 = .ok (.bipush 9, 2) := by decide +kernel
theorem dX12_countRuns_373 : decode cX12_countRuns 373 = .ok (.if_icmp .ge 28, 3) := by decide +kernel
theorem dX12_countRuns_376 : decode cX12_countRuns 376 = .ok (.aload_n 0, 1) := by decide +kernel
theorem dX12_countRuns_377 : decode cX12_countRuns 377 = .ok (.getfield 56, 3) := by decide +kernel
theorem dX12_countRuns_380 : decode cX12_countRuns 380 = .ok (.iload 7, 2) := by decide +kernel
theorem dX12_countRuns_382 : decode cX12_countRuns 382 = .ok (.aload_n 0, 1) := by decide +kernel
theorem dX12_countRuns_383 : decode cX12_countRuns 383 = .ok (.getfield 62, 3) := by decide +kernel
theorem dX12_countRuns_386 : decode cX12_countRuns 386 = .ok (.bipush 9, 2) := by decide +kernel
theorem dX12_countRuns_388 : decode cX12_countRuns 388 = .ok (.iload_n 3, 1) := by decide +kernel
theorem dX12_countRuns_389 : decode cX12_countRuns 389 = .ok (.imul, 1) := by decide +kernel
theorem dX12_countRuns_390 : decode cX12_countRuns 390 = .ok (.iload 7, 2) := by decide +kernel
theorem dX12_countRuns_392 : decode cX12_countRuns 392 = .ok (.iadd, 1) := by decide +kernel
theorem dX12_countRuns_393 : decode cX12_countRuns 393 = .ok (.laload, 1) := by decide +kernel
theorem dX12_countRuns_394 : decode cX12_countRuns 394 = .ok (.lastore, 1) := by decide +kernel
theorem dX12_countRuns_395 : decode cX12_countRuns 395 = .ok (.iinc 7 1, 3) := by decide +kernel
theorem dX12_countRuns_398 : decode cX12_countRuns 398 = .ok (.goto (-29), 3) := by decide +kernel
theorem dX12_countRuns_401 : decode cX12_countRuns 401 = .ok (.aload_n 0, 1) := by decide +kernel
theorem dX12_countRuns_402 : decode cX12_countRuns 402 = .ok (.invokevirtual 277, 3) := by decide +kernel
theorem dX12_countRuns_405 : decode cX12_countRuns 405 = .ok (.aload_n 0, 1) := by decide +kernel
theorem dX12_countRuns_406 : decode cX12_countRuns 406 = .ok (.invokevirtual 280, 3) := by decide +kernel
theorem dX12_countRuns_409 : decode cX12_countRuns 409 = .ok (.goto 58, 3) := by decide +kernel
theorem dX12_countRuns_412 : decode cX12_countRuns 412 = .ok (.iconst 0, 1) := by decide +kernel
theorem dX12_countRuns_413 : decode cX12_countRuns 413 = .ok (.istore 6, 2) := by decide +kernel
theorem dX12_countRuns_415 : decode cX12_countRuns 415 = .ok (.iload 6, 2) := by decide +kernel
theorem dX12_countRuns_417 : decode cX12_countRuns 417 = .ok (.bipush 9, 2) := by decide +kernel
theorem dX12_countRuns_419 : decode cX12_countRuns 419 = .ok (.if_icmp .ge 40, 3) := by decide +kernel
theorem dX12_countRuns_422 : decode cX12_countRuns 422 = .ok (.aload_n 0, 1) := by decide +kernel
theorem dX12_countRuns_423 : decode cX12_countRuns 423 = .ok (.getfield 65, 3) := by decide +kernel
theorem dX12_countRuns_426 : decode cX12_countRuns 426 = .ok (.iload 6, 2) := by decide +kernel
theorem dX12_countRuns_428 : decode cX12_countRuns 428 = .ok (.aload_n 0, 1) := by decide +kernel
theorem dX12_countRuns_429 : decode cX12_countRuns 429 = .ok (.getfield 25, 3) := by decide +kernel
theorem dX12_countRuns_432 : decode cX12_countRuns 432 = .ok (.iload_n 1, 1) := by decide +kernel
theorem dX12_countRuns_433 : decode cX12_countRuns 433 = .ok (.iload 5, 2) := by decide +kernel
theorem dX12_countRuns_435 : decode cX12_countRuns 435 = .ok (.iload 6, 2) := by decide +kernel
theorem dX12_countRuns_437 : decode cX12_countRuns 437 = .ok (.iconst 3, 1) := by decide +kernel
theorem dX12_countRuns_438 : decode cX12_countRuns 438 = .ok (.idiv, 1) := by decide +kernel
theorem dX12_countRuns_439 : decode cX12_countRuns 439 = .ok (.iconst (-1), 1) := by decide +kernel
theorem dX12_countRuns_440 : decode cX12_countRuns 440 = .ok (.invokestatic 202, 3) := by decide +kernel
theorem dX12_countRuns_443 : decode cX12_countRuns 443 = .ok (.iaload, 1) := by decide +kernel
theorem dX12_countRuns_444 : decode cX12_countRuns 444 = .ok (.iload 6, 2) := by decide +kernel
theorem dX12_countRuns_446 : decode cX12_countRuns 446 = .ok (.iconst 3, 1) := by decide +kernel
theorem dX12_countRuns_447 : decode cX12_countRuns 447 = .ok (.irem, 1) := by decide +kernel
theorem dX12_countRuns_448 : decode cX12_countRuns 448 = .ok (.ishr, 1) := by decide +kernel
theorem dX12_countRuns_449 : decode cX12_countRuns 449 = .ok (.iconst 1, 1) := by decide +kernel
theorem dX12_countRuns_450 : decode cX12_countRuns 450 = .ok (.iand, 1) := by decide +kernel
theorem dX12_countRuns_451 : decode cX12_countRuns 451 = .ok (.i2l, 1) := by decide +kernel
theorem dX12_countRuns_452 : decode cX12_countRuns 452 = .ok (.lastore, 1) := by decide +kernel
theorem dX12_countRuns_453 : decode cX12_countRuns 453 = .ok (.iinc 6 1, 3) := by decide +kernel
theorem dX12_countRuns_456 : decode cX12_countRuns 456 = .ok (.goto (-41), 3) := by decide +kernel
theorem dX12_countRuns_459 : decode cX12_countRuns 459 = .ok (.aload_n 0, 1) := by decide +kernel
theorem dX12_countRuns_460 : decode cX12_countRuns 460 = .ok (.invokevirtual 277, 3) := by decide +kernel
theorem dX12_countRuns_463 : decode cX12_countRuns 463 = .ok (.aload_n 0, 1) := by decide +kernel
theorem dX12_countRuns_464 : decode cX12_countRuns 464 = .ok (.invokevirtual 274, 3) := by decide +kernel
theorem dX12_countRuns_467 : decode cX12_countRuns 467 = .ok (.iinc 4 1, 3) := by decide +kernel
theorem dX12_countRuns_470 : decode cX12_countRuns 470 = .ok (.goto (-429), 3) := by decide +kernel
theorem dX12_countRuns_473 : decode cX12_countRuns 473 = .ok (.return_, 1) := by decide +kernel
theorem dX12_toItself_0 : decode cX12_toItself 0 = .ok (.iconst 0, 1) := by decide +kernel
theorem dX12_toItself_1 : decode cX12_toItself 1 = .ok (.istore_n 1, 1) := by decide +kernel
theorem dX12_toItself_2 : decode cX12_toItself 2 = .ok (.iload_n 1, 1) := by decide +kernel
theorem dX12_toItself_3 : decode cX12_toItself 3 = .ok (.bipush 9, 2) := by decide +kernel
theorem dX12_toItself_5 : decode cX12_toItself 5 = .ok (.if_icmp .ge 26, 3) := by decide +kernel
theorem dX12_toItself_8 : decode cX12_toItself 8 = .ok (.aload_n 0, 1) := by decide +kernel
theorem dX12_toItself_9 : decode cX12_toItself 9 = .ok (.getfield 56, 3) := by decide +kernel
theorem dX12_toItself_12 : decode cX12_toItself 12 = .ok (.iload_n 1, 1) := by decide +kernel
theorem dX12_toItself_13 : decode cX12_toItself 13 = .ok (.iload_n 1, 1) := by decide +kernel
theorem dX12_toItself_14 : decode cX12_toItself 14 = .ok (.iconst 4, 1) := by decide +kernel
theorem dX12_toItself_15 : decode cX12_toItself 15 = .ok (.irem, 1) := by decide +kernel
theorem dX12_toItself_16 : decode cX12_toItself 16 = .ok (.ifCond .ne 7, 3) := by decide +kernel
theorem dX12_toItself_19 : decode cX12_toItself 19 = .ok (.lconst 1, 1) := by decide +kernel
theorem dX12_toItself_20 : decode cX12_toItself 20 = .ok (.goto 4, 3) := by decide +kernel
theorem dX12_toItself_23 : decode cX12_toItself 23 = .ok (.lconst 0, 1) := by decide +kernel
theorem dX12_toItself_24 : decode cX12_toItself 24 = .ok (.lastore, 1) := by decide +kernel
theorem dX12_toItself_25 : decode cX12_toItself 25 = .ok (.iinc 1 1, 3) := by decide +kernel
theorem dX12_toItself_28 : decode cX12_toItself 28 = .ok (.goto (-26), 3) := by decide +kernel
theorem dX12_toItself_31 : decode cX12_toItself 31 = .ok (.return_, 1) := by decide +kernel
theorem ggX12_letterOpen_X12_findPartners : GoodIn wsX12_letterOpen wsX12_findPartners := gdC (gd1 m25_15)
theorem gX12_letterOpen_X12_findPartners : GoodIn wsX12_letterOpen (wsV RX12 226 RX12 yX12_findPartners wsX12_findPartners) := gdC (gd4 m25_12 m25_13 m25_14 m1_5 m25_15)
theorem dX12_letterOpen_0 : decode cX12_letterOpen 0 = .ok (.aload_n 0, 1) := by decide +kernel
theorem dX12_letterOpen_1 : decode cX12_letterOpen 1 = .ok (.iload_n 1, 1) := by decide +kernel
theorem dX12_letterOpen_2 : decode cX12_letterOpen 2 = .ok (.iconst 1, 1) := by decide +kernel
theorem dX12_letterOpen_3 : decode cX12_letterOpen 3 = .ok (.iadd, 1) := by decide +kernel
theorem dX12_letterOpen_4 : decode cX12_letterOpen 4 = .ok (.invokevirtual 226, 3) := by decide +kernel
theorem dX12_letterOpen_7 : decode cX12_letterOpen 7 = .ok (.pop, 1) := by decide +kernel
theorem dX12_letterOpen_8 : decode cX12_letterOpen 8 = .ok (.aload_n 0, 1) := by decide +kernel
theorem dX12_letterOpen_9 : decode cX12_letterOpen 9 = .ok (.getfield 34, 3) := by decide +kernel
theorem dX12_letterOpen_12 : decode cX12_letterOpen 12 = .ok (.aload_n 0, 1) := by decide +kernel
theorem dX12_letterOpen_13 : decode cX12_letterOpen 13 = .ok (.getfield 37, 3) := by decide +kernel
theorem dX12_letterOpen_16 : decode cX12_letterOpen 16 = .ok (.iload_n 1, 1) := by decide +kernel
theorem dX12_letterOpen_17 : decode cX12_letterOpen 17 = .ok (.iaload, 1) := by decide +kernel
theorem dX12_letterOpen_18 : decode cX12_letterOpen 18 = .ok (.iaload, 1) := by decide +kernel
theorem dX12_letterOpen_19 : decode cX12_letterOpen 19 = .ok (.ireturn, 1) := by decide +kernel
theorem ggX12_waysOver_X12_putAt : GoodIn wsX12_waysOver wsX12_putAt := gdC (gd1 m20_18)
theorem gX12_waysOver_X12_putAt : GoodIn wsX12_waysOver (va_wsS RX12 194 yX12_putAt wsX12_putAt) := gdC (gd3 m20_16 m20_17 m1_5 m20_18)
theorem ggX12_waysOver_X12_closeAt : GoodIn wsX12_waysOver wsX12_closeAt := gdC (gd1 m21_0)
theorem gX12_waysOver_X12_closeAt : GoodIn wsX12_waysOver (va_wsS RX12 202 yX12_closeAt wsX12_closeAt) := gdC (gd3 m20_22 m20_23 m1_5 m21_0)
theorem dX12_waysOver_0 : decode cX12_waysOver 0 = .ok (.lconst 0, 1) := by decide +kernel
theorem dX12_waysOver_1 : decode cX12_waysOver 1 = .ok (.lstore 6, 2) := by decide +kernel
theorem dX12_waysOver_3 : decode cX12_waysOver 3 = .ok (.iconst 0, 1) := by decide +kernel
theorem dX12_waysOver_4 : decode cX12_waysOver 4 = .ok (.istore 8, 2) := by decide +kernel
theorem dX12_waysOver_6 : decode cX12_waysOver 6 = .ok (.iload 8, 2) := by decide +kernel
theorem dX12_waysOver_8 : decode cX12_waysOver 8 = .ok (.aload_n 0, 1) := by decide +kernel
theorem dX12_waysOver_9 : decode cX12_waysOver 9 = .ok (.getfield 13, 3) := by decide +kernel
theorem dX12_waysOver_12 : decode cX12_waysOver 12 = .ok (.iload_n 1, 1) := by decide +kernel
theorem dX12_waysOver_13 : decode cX12_waysOver 13 = .ok (.iaload, 1) := by decide +kernel
theorem dX12_waysOver_14 : decode cX12_waysOver 14 = .ok (.if_icmp .ge 103, 3) := by decide +kernel
theorem dX12_waysOver_17 : decode cX12_waysOver 17 = .ok (.iconst 0, 1) := by decide +kernel
theorem dX12_waysOver_18 : decode cX12_waysOver 18 = .ok (.istore 9, 2) := by decide +kernel
theorem dX12_waysOver_20 : decode cX12_waysOver 20 = .ok (.iload 9, 2) := by decide +kernel
theorem dX12_waysOver_22 : decode cX12_waysOver 22 = .ok (.bipush 9, 2) := by decide +kernel
theorem dX12_waysOver_24 : decode cX12_waysOver 24 = .ok (.if_icmp .ge 87, 3) := by decide +kernel
theorem dX12_waysOver_27 : decode cX12_waysOver 27 = .ok (.aload_n 0, 1) := by decide +kernel
theorem dX12_waysOver_28 : decode cX12_waysOver 28 = .ok (.getfield 19, 3) := by decide +kernel
theorem dX12_waysOver_31 : decode cX12_waysOver 31 = .ok (.iload_n 1, 1) := by decide +kernel
theorem dX12_waysOver_32 : decode cX12_waysOver 32 = .ok (.iload_n 2, 1) := by decide +kernel
theorem dX12_waysOver_33 : decode cX12_waysOver 33 = .ok (.iload_n 3, 1) := by decide +kernel
theorem dX12_waysOver_34 : decode cX12_waysOver 34 = .ok (.iload 8, 2) := by decide +kernel
theorem dX12_waysOver_36 : decode cX12_waysOver 36 = .ok (.invokestatic 194, 3) := by decide +kernel
theorem dX12_waysOver_39 : decode cX12_waysOver 39 = .ok (.iaload, 1) := by decide +kernel
theorem dX12_waysOver_40 : decode cX12_waysOver 40 = .ok (.iload 9, 2) := by decide +kernel
theorem dX12_waysOver_42 : decode cX12_waysOver 42 = .ok (.iconst 3, 1) := by decide +kernel
theorem dX12_waysOver_43 : decode cX12_waysOver 43 = .ok (.idiv, 1) := by decide +kernel
theorem dX12_waysOver_44 : decode cX12_waysOver 44 = .ok (.ishr, 1) := by decide +kernel
theorem dX12_waysOver_45 : decode cX12_waysOver 45 = .ok (.iconst 1, 1) := by decide +kernel
theorem dX12_waysOver_46 : decode cX12_waysOver 46 = .ok (.iand, 1) := by decide +kernel
theorem dX12_waysOver_47 : decode cX12_waysOver 47 = .ok (.iconst 1, 1) := by decide +kernel
theorem dX12_waysOver_48 : decode cX12_waysOver 48 = .ok (.if_icmp .ne 33, 3) := by decide +kernel
theorem dX12_waysOver_51 : decode cX12_waysOver 51 = .ok (.aload_n 0, 1) := by decide +kernel
theorem dX12_waysOver_52 : decode cX12_waysOver 52 = .ok (.getfield 25, 3) := by decide +kernel
theorem dX12_waysOver_55 : decode cX12_waysOver 55 = .ok (.iload_n 1, 1) := by decide +kernel
theorem dX12_waysOver_56 : decode cX12_waysOver 56 = .ok (.iload 4, 2) := by decide +kernel
theorem dX12_waysOver_58 : decode cX12_waysOver 58 = .ok (.iload 9, 2) := by decide +kernel
theorem dX12_waysOver_60 : decode cX12_waysOver 60 = .ok (.iconst 3, 1) := by decide +kernel
theorem dX12_waysOver_61 : decode cX12_waysOver 61 = .ok (.irem, 1) := by decide +kernel
theorem dX12_waysOver_62 : decode cX12_waysOver 62 = .ok (.iload 8, 2) := by decide +kernel
theorem dX12_waysOver_64 : decode cX12_waysOver 64 = .ok (.invokestatic 202, 3) := by decide +kernel
theorem dX12_waysOver_67 : decode cX12_waysOver 67 = .ok (.iaload, 1) := by decide +kernel
theorem dX12_waysOver_68 : decode cX12_waysOver 68 = .ok (.iload 5, 2) := by decide +kernel
theorem dX12_waysOver_70 : decode cX12_waysOver 70 = .ok (.ishr, 1) := by decide +kernel
theorem dX12_waysOver_71 : decode cX12_waysOver 71 = .ok (.iconst 1, 1) := by decide +kernel
theorem dX12_waysOver_72 : decode cX12_waysOver 72 = .ok (.iand, 1) := by decide +kernel
theorem dX12_waysOver_73 : decode cX12_waysOver 73 = .ok (.iconst 1, 1) := by decide +kernel
theorem dX12_waysOver_74 : decode cX12_waysOver 74 = .ok (.if_icmp .ne 7, 3) := by decide +kernel
theorem dX12_waysOver_77 : decode cX12_waysOver 77 = .ok (.iconst 1, 1) := by decide +kernel
theorem dX12_waysOver_78 : decode cX12_waysOver 78 = .ok (.goto 4, 3) := by decide +kernel
theorem dX12_waysOver_81 : decode cX12_waysOver 81 = .ok (.iconst 0, 1) := by decide +kernel
theorem dX12_waysOver_82 : decode cX12_waysOver 82 = .ok (.istore 10, 2) := by decide +kernel
theorem dX12_waysOver_84 : decode cX12_waysOver 84 = .ok (.lload 6, 2) := by decide +kernel
theorem dX12_waysOver_86 : decode cX12_waysOver 86 = .ok (.iload 10, 2) := by decide +kernel
theorem dX12_waysOver_88 : decode cX12_waysOver 88 = .ok (.ifCond .eq 13, 3) := by decide +kernel
theorem dX12_waysOver_91 : decode cX12_waysOver 91 = .ok (.aload_n 0, 1) := by decide +kernel
theorem dX12_waysOver_92 : decode cX12_waysOver 92 = .ok (.getfield 56, 3) := by decide +kernel
theorem dX12_waysOver_95 : decode cX12_waysOver 95 = .ok (.iload 9, 2) := by decide +kernel
theorem dX12_waysOver_97 : decode cX12_waysOver 97 = .ok (.laload, 1) := by decide +kernel
theorem dX12_waysOver_98 : decode cX12_waysOver 98 = .ok (.goto 4, 3) := by decide +kernel
theorem dX12_waysOver_101 : decode cX12_waysOver 101 = .ok (.lconst 0, 1) := by decide +kernel
theorem dX12_waysOver_102 : decode cX12_waysOver 102 = .ok (.ladd, 1) := by decide +kernel
theorem dX12_waysOver_103 : decode cX12_waysOver 103 = .ok (.lstore 6, 2) := by decide +kernel
theorem dX12_waysOver_105 : decode cX12_waysOver 105 = .ok (.iinc 9 1, 3) := by decide +kernel
theorem dX12_waysOver_108 : decode cX12_waysOver 108 = .ok (.goto (-88), 3) := by decide +kernel
theorem dX12_waysOver_111 : decode cX12_waysOver 111 = .ok (.iinc 8 1, 3) := by decide +kernel
theorem dX12_waysOver_114 : decode cX12_waysOver 114 = .ok (.goto (-108), 3) := by decide +kernel
theorem dX12_waysOver_117 : decode cX12_waysOver 117 = .ok (.lload 6, 2) := by decide +kernel
theorem dX12_waysOver_119 : decode cX12_waysOver 119 = .ok (.ldc2_w 290, 3) := by decide +kernel
theorem dX12_waysOver_122 : decode cX12_waysOver 122 = .ok (.lrem, 1) := by decide +kernel
theorem dX12_waysOver_123 : decode cX12_waysOver 123 = .ok (.lreturn, 1) := by decide +kernel
theorem dX12_stepRuns_0 : decode cX12_stepRuns 0 = .ok (.aload_n 0, 1) := by decide +kernel
theorem dX12_stepRuns_1 : decode cX12_stepRuns 1 = .ok (.getfield 52, 3) := by decide +kernel
theorem dX12_stepRuns_4 : decode cX12_stepRuns 4 = .ok (.iconst 0, 1) := by decide +kernel
theorem dX12_stepRuns_5 : decode cX12_stepRuns 5 = .ok (.laload, 1) := by decide +kernel
theorem dX12_stepRuns_6 : decode cX12_stepRuns 6 = .ok (.aload_n 0, 1) := by decide +kernel
theorem dX12_stepRuns_7 : decode cX12_stepRuns 7 = .ok (.getfield 65, 3) := by decide +kernel
theorem dX12_stepRuns_10 : decode cX12_stepRuns 10 = .ok (.iconst 0, 1) := by decide +kernel
theorem dX12_stepRuns_11 : decode cX12_stepRuns 11 = .ok (.laload, 1) := by decide +kernel
theorem dX12_stepRuns_12 : decode cX12_stepRuns 12 = .ok (.lmul, 1) := by decide +kernel
theorem dX12_stepRuns_13 : decode cX12_stepRuns 13 = .ok (.ldc2_w 290, 3) := by decide +kernel
theorem dX12_stepRuns_16 : decode cX12_stepRuns 16 = .ok (.lrem, 1) := by decide +kernel
theorem dX12_stepRuns_17 : decode cX12_stepRuns 17 = .ok (.aload_n 0, 1) := by decide +kernel
theorem dX12_stepRuns_18 : decode cX12_stepRuns 18 = .ok (.getfield 52, 3) := by decide +kernel
theorem dX12_stepRuns_21 : decode cX12_stepRuns 21 = .ok (.iconst 1, 1) := by decide +kernel
theorem dX12_stepRuns_22 : decode cX12_stepRuns 22 = .ok (.laload, 1) := by decide +kernel
theorem dX12_stepRuns_23 : decode cX12_stepRuns 23 = .ok (.aload_n 0, 1) := by decide +kernel
theorem dX12_stepRuns_24 : decode cX12_stepRuns 24 = .ok (.getfield 65, 3) := by decide +kernel
theorem dX12_stepRuns_27 : decode cX12_stepRuns 27 = .ok (.iconst 3, 1) := by decide +kernel
theorem dX12_stepRuns_28 : decode cX12_stepRuns 28 = .ok (.laload, 1) := by decide +kernel
theorem dX12_stepRuns_29 : decode cX12_stepRuns 29 = .ok (.lmul, 1) := by decide +kernel
theorem dX12_stepRuns_30 : decode cX12_stepRuns 30 = .ok (.ldc2_w 290, 3) := by decide +kernel
theorem dX12_stepRuns_33 : decode cX12_stepRuns 33 = .ok (.lrem, 1) := by decide +kernel
theorem dX12_stepRuns_34 : decode cX12_stepRuns 34 = .ok (.ladd, 1) := by decide +kernel
theorem dX12_stepRuns_35 : decode cX12_stepRuns 35 = .ok (.aload_n 0, 1) := by decide +kernel
theorem dX12_stepRuns_36 : decode cX12_stepRuns 36 = .ok (.getfield 52, 3) := by decide +kernel
theorem dX12_stepRuns_39 : decode cX12_stepRuns 39 = .ok (.iconst 2, 1) := by decide +kernel
theorem dX12_stepRuns_40 : decode cX12_stepRuns 40 = .ok (.laload, 1) := by decide +kernel
theorem dX12_stepRuns_41 : decode cX12_stepRuns 41 = .ok (.aload_n 0, 1) := by decide +kernel
theorem dX12_stepRuns_42 : decode cX12_stepRuns 42 = .ok (.getfield 65, 3) := by decide +kernel
theorem dX12_stepRuns_45 : decode cX12_stepRuns 45 = .ok (.bipush 6, 2) := by decide +kernel
theorem dX12_stepRuns_47 : decode cX12_stepRuns 47 = .ok (.laload, 1) := by decide +kernel
theorem dX12_stepRuns_48 : decode cX12_stepRuns 48 = .ok (.lmul, 1) := by decide +kernel
theorem dX12_stepRuns_49 : decode cX12_stepRuns 49 = .ok (.ldc2_w 290, 3) := by decide +kernel
theorem dX12_stepRuns_52 : decode cX12_stepRuns 52 = .ok (.lrem, 1) := by decide +kernel
theorem dX12_stepRuns_53 : decode cX12_stepRuns 53 = .ok (.ladd, 1) := by decide +kernel
theorem dX12_stepRuns_54 : decode cX12_stepRuns 54 = .ok (.ldc2_w 290, 3) := by decide +kernel
theorem dX12_stepRuns_57 : decode cX12_stepRuns 57 = .ok (.lrem, 1) := by decide +kernel
theorem dX12_stepRuns_58 : decode cX12_stepRuns 58 = .ok (.lstore_n 1, 1) := by decide +kernel
theorem dX12_stepRuns_59 : decode cX12_stepRuns 59 = .ok (.aload_n 0, 1) := by decide +kernel
theorem dX12_stepRuns_60 : decode cX12_stepRuns 60 = .ok (.getfield 52, 3) := by decide +kernel
theorem dX12_stepRuns_63 : decode cX12_stepRuns 63 = .ok (.iconst 0, 1) := by decide +kernel
theorem dX12_stepRuns_64 : decode cX12_stepRuns 64 = .ok (.laload, 1) := by decide +kernel
theorem dX12_stepRuns_65 : decode cX12_stepRuns 65 = .ok (.aload_n 0, 1) := by decide +kernel
theorem dX12_stepRuns_66 : decode cX12_stepRuns 66 = .ok (.getfield 65, 3) := by decide +kernel
theorem dX12_stepRuns_69 : decode cX12_stepRuns 69 = .ok (.iconst 1, 1) := by decide +kernel
theorem dX12_stepRuns_70 : decode cX12_stepRuns 70 = .ok (.laload, 1) := by decide +kernel
theorem dX12_stepRuns_71 : decode cX12_stepRuns 71 = .ok (.lmul, 1) := by decide +kernel
theorem dX12_stepRuns_72 : decode cX12_stepRuns 72 = .ok (.ldc2_w 290, 3) := by decide +kernel
theorem dX12_stepRuns_75 : decode cX12_stepRuns 75 = .ok (.lrem, 1) := by decide +kernel
theorem dX12_stepRuns_76 : decode cX12_stepRuns 76 = .ok (.aload_n 0, 1) := by decide +kernel
theorem dX12_stepRuns_77 : decode cX12_stepRuns 77 = .ok (.getfield 52, 3) := by decide +kernel
theorem dX12_stepRuns_80 : decode cX12_stepRuns 80 = .ok (.iconst 1, 1) := by decide +kernel
theorem dX12_stepRuns_81 : decode cX12_stepRuns 81 = .ok (.laload, 1) := by decide +kernel
theorem dX12_stepRuns_82 : decode cX12_stepRuns 82 = .ok (.aload_n 0, 1) := by decide +kernel
theorem dX12_stepRuns_83 : decode cX12_stepRuns 83 = .ok (.getfield 65, 3) := by decide +kernel
theorem dX12_stepRuns_86 : decode cX12_stepRuns 86 = .ok (.iconst 4, 1) := by decide +kernel
theorem dX12_stepRuns_87 : decode cX12_stepRuns 87 = .ok (.laload, 1) := by decide +kernel
theorem dX12_stepRuns_88 : decode cX12_stepRuns 88 = .ok (.lmul, 1) := by decide +kernel
theorem dX12_stepRuns_89 : decode cX12_stepRuns 89 = .ok (.ldc2_w 290, 3) := by decide +kernel
theorem dX12_stepRuns_92 : decode cX12_stepRuns 92 = .ok (.lrem, 1) := by decide +kernel
theorem dX12_stepRuns_93 : decode cX12_stepRuns 93 = .ok (.ladd, 1) := by decide +kernel
theorem dX12_stepRuns_94 : decode cX12_stepRuns 94 = .ok (.aload_n 0, 1) := by decide +kernel
theorem dX12_stepRuns_95 : decode cX12_stepRuns 95 = .ok (.getfield 52, 3) := by decide +kernel
theorem dX12_stepRuns_98 : decode cX12_stepRuns 98 = .ok (.iconst 2, 1) := by decide +kernel
theorem dX12_stepRuns_99 : decode cX12_stepRuns 99 = .ok (.laload, 1) := by decide +kernel
theorem dX12_stepRuns_100 : decode cX12_stepRuns 100 = .ok (.aload_n 0, 1) := by decide +kernel
theorem dX12_stepRuns_101 : decode cX12_stepRuns 101 = .ok (.getfield 65, 3) := by decide +kernel
theorem dX12_stepRuns_104 : decode cX12_stepRuns 104 = .ok (.bipush 7, 2) := by decide +kernel
theorem dX12_stepRuns_106 : decode cX12_stepRuns 106 = .ok (.laload, 1) := by decide +kernel
theorem dX12_stepRuns_107 : decode cX12_stepRuns 107 = .ok (.lmul, 1) := by decide +kernel
theorem dX12_stepRuns_108 : decode cX12_stepRuns 108 = .ok (.ldc2_w 290, 3) := by decide +kernel
theorem dX12_stepRuns_111 : decode cX12_stepRuns 111 = .ok (.lrem, 1) := by decide +kernel
theorem dX12_stepRuns_112 : decode cX12_stepRuns 112 = .ok (.ladd, 1) := by decide +kernel
theorem dX12_stepRuns_113 : decode cX12_stepRuns 113 = .ok (.ldc2_w 290, 3) := by decide +kernel
theorem dX12_stepRuns_116 : decode cX12_stepRuns 116 = .ok (.lrem, 1) := by decide +kernel
theorem dX12_stepRuns_117 : decode cX12_stepRuns 117 = .ok (.lstore_n 3, 1) := by decide +kernel
theorem dX12_stepRuns_118 : decode cX12_stepRuns 118 = .ok (.aload_n 0, 1) := by decide +kernel
theorem dX12_stepRuns_119 : decode cX12_stepRuns 119 = .ok (.getfield 52, 3) := by decide +kernel
theorem dX12_stepRuns_122 : decode cX12_stepRuns 122 = .ok (.iconst 0, 1) := by decide +kernel
theorem dX12_stepRuns_123 : decode cX12_stepRuns 123 = .ok (.laload, 1) := by decide +kernel
theorem dX12_stepRuns_124 : decode cX12_stepRuns 124 = .ok (.aload_n 0, 1) := by decide +kernel
theorem dX12_stepRuns_125 : decode cX12_stepRuns 125 = .ok (.getfield 65, 3) := by decide +kernel
theorem dX12_stepRuns_128 : decode cX12_stepRuns 128 = .ok (.iconst 2, 1) := by decide +kernel
theorem dX12_stepRuns_129 : decode cX12_stepRuns 129 = .ok (.laload, 1) := by decide +kernel
theorem dX12_stepRuns_130 : decode cX12_stepRuns 130 = .ok (.lmul, 1) := by decide +kernel
theorem dX12_stepRuns_131 : decode cX12_stepRuns 131 = .ok (.ldc2_w 290, 3) := by decide +kernel
theorem dX12_stepRuns_134 : decode cX12_stepRuns 134 = .ok (.lrem, 1) := by decide +kernel
theorem dX12_stepRuns_135 : decode cX12_stepRuns 135 = .ok (.aload_n 0, 1) := by decide +kernel
theorem dX12_stepRuns_136 : decode cX12_stepRuns 136 = .ok (.getfield 52, 3) := by decide +kernel
theorem dX12_stepRuns_139 : decode cX12_stepRuns 139 = .ok (.iconst 1, 1) := by decide +kernel
theorem dX12_stepRuns_140 : decode cX12_stepRuns 140 = .ok (.laload, 1) := by decide +kernel
theorem dX12_stepRuns_141 : decode cX12_stepRuns 141 = .ok (.aload_n 0, 1) := by decide +kernel
theorem dX12_stepRuns_142 : decode cX12_stepRuns 142 = .ok (.getfield 65, 3) := by decide +kernel
theorem dX12_stepRuns_145 : decode cX12_stepRuns 145 = .ok (.iconst 5, 1) := by decide +kernel
theorem dX12_stepRuns_146 : decode cX12_stepRuns 146 = .ok (.laload, 1) := by decide +kernel
theorem dX12_stepRuns_147 : decode cX12_stepRuns 147 = .ok (.lmul, 1) := by decide +kernel
theorem dX12_stepRuns_148 : decode cX12_stepRuns 148 = .ok (.ldc2_w 290, 3) := by decide +kernel
theorem dX12_stepRuns_151 : decode cX12_stepRuns 151 = .ok (.lrem, 1) := by decide +kernel
theorem dX12_stepRuns_152 : decode cX12_stepRuns 152 = .ok (.ladd, 1) := by decide +kernel
theorem dX12_stepRuns_153 : decode cX12_stepRuns 153 = .ok (.aload_n 0, 1) := by decide +kernel
theorem dX12_stepRuns_154 : decode cX12_stepRuns 154 = .ok (.getfield 52, 3) := by decide +kernel
theorem dX12_stepRuns_157 : decode cX12_stepRuns 157 = .ok (.iconst 2, 1) := by decide +kernel
theorem dX12_stepRuns_158 : decode cX12_stepRuns 158 = .ok (.laload, 1) := by decide +kernel
theorem dX12_stepRuns_159 : decode cX12_stepRuns 159 = .ok (.aload_n 0, 1) := by decide +kernel
theorem dX12_stepRuns_160 : decode cX12_stepRuns 160 = .ok (.getfield 65, 3) := by decide +kernel
theorem dX12_stepRuns_163 : decode cX12_stepRuns 163 = .ok (.bipush 8, 2) := by decide +kernel
theorem dX12_stepRuns_165 : decode cX12_stepRuns 165 = .ok (.laload, 1) := by decide +kernel
theorem dX12_stepRuns_166 : decode cX12_stepRuns 166 = .ok (.lmul, 1) := by decide +kernel
theorem dX12_stepRuns_167 : decode cX12_stepRuns 167 = .ok (.ldc2_w 290, 3) := by decide +kernel
theorem dX12_stepRuns_170 : decode cX12_stepRuns 170 = .ok (.lrem, 1) := by decide +kernel
theorem dX12_stepRuns_171 : decode cX12_stepRuns 171 = .ok (.ladd, 1) := by decide +kernel
theorem dX12_stepRuns_172 : decode cX12_stepRuns 172 = .ok (.ldc2_w 290, 3) := by decide +kernel
theorem dX12_stepRuns_175 : decode cX12_stepRuns 175 = .ok (.lrem, 1) := by decide +kernel
theorem dX12_stepRuns_176 : decode cX12_stepRuns 176 = .ok (.lstore 5, 2) := by decide +kernel
theorem dX12_stepRuns_178 : decode cX12_stepRuns 178 = .ok (.aload_n 0, 1) := by decide +kernel
theorem dX12_stepRuns_179 : decode cX12_stepRuns 179 = .ok (.getfield 52, 3) := by decide +kernel
theorem dX12_stepRuns_182 : decode cX12_stepRuns 182 = .ok (.iconst 0, 1) := by decide +kernel
theorem dX12_stepRuns_183 : decode cX12_stepRuns 183 = .ok (.lload_n 1, 1) := by decide +kernel
theorem dX12_stepRuns_184 : decode cX12_stepRuns 184 = .ok (.lastore, 1) := by decide +kernel
theorem dX12_stepRuns_185 : decode cX12_stepRuns 185 = .ok (.aload_n 0, 1) := by decide +kernel
theorem dX12_stepRuns_186 : decode cX12_stepRuns 186 = .ok (.getfield 52, 3) := by decide +kernel
theorem dX12_stepRuns_189 : decode cX12_stepRuns 189 = .ok (.iconst 1, 1) := by decide +kernel
theorem dX12_stepRuns_190 : decode cX12_stepRuns 190 = .ok (.lload_n 3, 1) := by decide +kernel
theorem dX12_stepRuns_191 : decode cX12_stepRuns 191 = .ok (.lastore, 1) := by decide +kernel
theorem dX12_stepRuns_192 : decode cX12_stepRuns 192 = .ok (.aload_n 0, 1) := by decide +kernel
theorem dX12_stepRuns_193 : decode cX12_stepRuns 193 = .ok (.getfield 52, 3) := by decide +kernel
theorem dX12_stepRuns_196 : decode cX12_stepRuns 196 = .ok (.iconst 2, 1) := by decide +kernel
theorem dX12_stepRuns_197 : decode cX12_stepRuns 197 = .ok (.lload 5, 2) := by decide +kernel
theorem dX12_stepRuns_199 : decode cX12_stepRuns 199 = .ok (.lastore, 1) := by decide +kernel
theorem dX12_stepRuns_200 : decode cX12_stepRuns 200 = .ok (.return_, 1) := by decide +kernel
theorem dX12_stepWays_0 : decode cX12_stepWays 0 = .ok (.iconst 0, 1) := by decide +kernel
theorem dX12_stepWays_1 : decode cX12_stepWays 1 = .ok (.istore_n 1, 1) := by decide +kernel
theorem dX12_stepWays_2 : decode cX12_stepWays 2 = .ok (.iload_n 1, 1) := by decide +kernel
theorem dX12_stepWays_3 : decode cX12_stepWays 3 = .ok (.iconst 3, 1) := by decide +kernel
theorem dX12_stepWays_4 : decode cX12_stepWays 4 = .ok (.if_icmp .ge 120, 3) := by decide +kernel
theorem dX12_stepWays_7 : decode cX12_stepWays 7 = .ok (.aload_n 0, 1) := by decide +kernel
theorem dX12_stepWays_8 : decode cX12_stepWays 8 = .ok (.getfield 56, 3) := by decide +kernel
theorem dX12_stepWays_11 : decode cX12_stepWays 11 = .ok (.iconst 3, 1) := by decide +kernel
theorem dX12_stepWays_12 : decode cX12_stepWays 12 = .ok (.iload_n 1, 1) := by decide +kernel
theorem dX12_stepWays_13 : decode cX12_stepWays 13 = .ok (.imul, 1) := by decide +kernel
theorem dX12_stepWays_14 : decode cX12_stepWays 14 = .ok (.laload, 1) := by decide +kernel
theorem dX12_stepWays_15 : decode cX12_stepWays 15 = .ok (.lstore_n 2, 1) := by decide +kernel
theorem dX12_stepWays_16 : decode cX12_stepWays 16 = .ok (.aload_n 0, 1) := by decide +kernel
theorem dX12_stepWays_17 : decode cX12_stepWays 17 = .ok (.getfield 56, 3) := by decide +kernel
theorem dX12_stepWays_20 : decode cX12_stepWays 20 = .ok (.iconst 3, 1) := by decide +kernel
theorem dX12_stepWays_21 : decode cX12_stepWays 21 = .ok (.iload_n 1, 1) := by decide +kernel
theorem dX12_stepWays_22 : decode cX12_stepWays 22 = .ok (.imul, 1) := by decide +kernel
theorem dX12_stepWays_23 : decode cX12_stepWays 23 = .ok (.iconst 1, 1) := by decide +kernel
theorem dX12_stepWays_24 : decode cX12_stepWays 24 = .ok (.iadd, 1) := by decide +kernel
theorem dX12_stepWays_25 : decode cX12_stepWays 25 = .ok (.laload, 1) := by decide +kernel
theorem dX12_stepWays_26 : decode cX12_stepWays 26 = .ok (.lstore 4, 2) := by decide +kernel
theorem dX12_stepWays_28 : decode cX12_stepWays 28 = .ok (.aload_n 0, 1) := by decide +kernel
theorem dX12_stepWays_29 : decode cX12_stepWays 29 = .ok (.getfield 56, 3) := by decide +kernel
theorem dX12_stepWays_32 : decode cX12_stepWays 32 = .ok (.iconst 3, 1) := by decide +kernel
theorem dX12_stepWays_33 : decode cX12_stepWays 33 = .ok (.iload_n 1, 1) := by decide +kernel
theorem dX12_stepWays_34 : decode cX12_stepWays 34 = .ok (.imul, 1) := by decide +kernel
theorem dX12_stepWays_35 : decode cX12_stepWays 35 = .ok (.iconst 2, 1) := by decide +kernel
theorem dX12_stepWays_36 : decode cX12_stepWays 36 = .ok (.iadd, 1) := by decide +kernel
theorem dX12_stepWays_37 : decode cX12_stepWays 37 = .ok (.laload, 1) := by decide +kernel
theorem dX12_stepWays_38 : decode cX12_stepWays 38 = .ok (.lstore 6, 2) := by decide +kernel
theorem dX12_stepWays_40 : decode cX12_stepWays 40 = .ok (.iconst 0, 1) := by decide +kernel
theorem dX12_stepWays_41 : decode cX12_stepWays 41 = .ok (.istore 8, 2) := by decide +kernel
theorem dX12_stepWays_43 : decode cX12_stepWays 43 = .ok (.iload 8, 2) := by decide +kernel
theorem dX12_stepWays_45 : decode cX12_stepWays 45 = .ok (.iconst 3, 1) := by decide +kernel
theorem dX12_stepWays_46 : decode cX12_stepWays 46 = .ok (.if_icmp .ge 72, 3) := by decide +kernel
theorem dX12_stepWays_49 : decode cX12_stepWays 49 = .ok (.aload_n 0, 1) := by decide +kernel
theorem dX12_stepWays_50 : decode cX12_stepWays 50 = .ok (.getfield 56, 3) := by decide +kernel
theorem dX12_stepWays_53 : decode cX12_stepWays 53 = .ok (.iconst 3, 1) := by decide +kernel
theorem dX12_stepWays_54 : decode cX12_stepWays 54 = .ok (.iload_n 1, 1) := by decide +kernel
theorem dX12_stepWays_55 : decode cX12_stepWays 55 = .ok (.imul, 1) := by decide +kernel
theorem dX12_stepWays_56 : decode cX12_stepWays 56 = .ok (.iload 8, 2) := by decide +kernel
theorem dX12_stepWays_58 : decode cX12_stepWays 58 = .ok (.iadd, 1) := by decide +kernel
theorem dX12_stepWays_59 : decode cX12_stepWays 59 = .ok (.lload_n 2, 1) := by decide +kernel
theorem dX12_stepWays_60 : decode cX12_stepWays 60 = .ok (.aload_n 0, 1) := by decide +kernel
theorem dX12_stepWays_61 : decode cX12_stepWays 61 = .ok (.getfield 65, 3) := by decide +kernel
theorem dX12_stepWays_64 : decode cX12_stepWays 64 = .ok (.iload 8, 2) := by decide +kernel
theorem dX12_stepWays_66 : decode cX12_stepWays 66 = .ok (.laload, 1) := by decide +kernel
theorem dX12_stepWays_67 : decode cX12_stepWays 67 = .ok (.lmul, 1) := by decide +kernel
theorem dX12_stepWays_68 : decode cX12_stepWays 68 = .ok (.ldc2_w 290, 3) := by decide +kernel
theorem dX12_stepWays_71 : decode cX12_stepWays 71 = .ok (.lrem, 1) := by decide +kernel
theorem dX12_stepWays_72 : decode cX12_stepWays 72 = .ok (.lload 4, 2) := by decide +kernel
theorem dX12_stepWays_74 : decode cX12_stepWays 74 = .ok (.aload_n 0, 1) := by decide +kernel
theorem dX12_stepWays_75 : decode cX12_stepWays 75 = .ok (.getfield 65, 3) := by decide +kernel
theorem dX12_stepWays_78 : decode cX12_stepWays 78 = .ok (.iconst 3, 1) := by decide +kernel
theorem dX12_stepWays_79 : decode cX12_stepWays 79 = .ok (.iload 8, 2) := by decide +kernel
theorem dX12_stepWays_81 : decode cX12_stepWays 81 = .ok (.iadd, 1) := by decide +kernel
theorem dX12_stepWays_82 : decode cX12_stepWays 82 = .ok (.laload, 1) := by decide +kernel
theorem dX12_stepWays_83 : decode cX12_stepWays 83 = .ok (.lmul, 1) := by decide +kernel
theorem dX12_stepWays_84 : decode cX12_stepWays 84 = .ok (.ldc2_w 290, 3) := by decide +kernel
theorem dX12_stepWays_87 : decode cX12_stepWays 87 = .ok (.lrem, 1) := by decide +kernel
theorem dX12_stepWays_88 : decode cX12_stepWays 88 = .ok (.ladd, 1) := by decide +kernel
theorem dX12_stepWays_89 : decode cX12_stepWays 89 = .ok (.lload 6, 2) := by decide +kernel
theorem dX12_stepWays_91 : decode cX12_stepWays 91 = .ok (.aload_n 0, 1) := by decide +kernel
theorem dX12_stepWays_92 : decode cX12_stepWays 92 = .ok (.getfield 65, 3) := by decide +kernel
theorem dX12_stepWays_95 : decode cX12_stepWays 95 = .ok (.bipush 6, 2) := by decide +kernel
theorem dX12_stepWays_97 : decode cX12_stepWays 97 = .ok (.iload 8, 2) := by decide +kernel
theorem dX12_stepWays_99 : decode cX12_stepWays 99 = .ok (.iadd, 1) := by decide +kernel
theorem dX12_stepWays_100 : decode cX12_stepWays 100 = .ok (.laload, 1) := by decide +kernel
theorem dX12_stepWays_101 : decode cX12_stepWays 101 = .ok (.lmul, 1) := by decide +kernel
theorem dX12_stepWays_102 : decode cX12_stepWays 102 = .ok (.ldc2_w 290, 3) := by decide +kernel
theorem dX12_stepWays_105 : decode cX12_stepWays 105 = .ok (.lrem, 1) := by decide +kernel
theorem dX12_stepWays_106 : decode cX12_stepWays 106 = .ok (.ladd, 1) := by decide +kernel
theorem dX12_stepWays_107 : decode cX12_stepWays 107 = .ok (.ldc2_w 290, 3) := by decide +kernel
theorem dX12_stepWays_110 : decode cX12_stepWays 110 = .ok (.lrem, 1) := by decide +kernel
theorem dX12_stepWays_111 : decode cX12_stepWays 111 = .ok (.lastore, 1) := by decide +kernel
theorem dX12_stepWays_112 : decode cX12_stepWays 112 = .ok (.iinc 8 1, 3) := by decide +kernel
theorem dX12_stepWays_115 : decode cX12_stepWays 115 = .ok (.goto (-72), 3) := by decide +kernel
theorem dX12_stepWays_118 : decode cX12_stepWays 118 = .ok (.iinc 1 1, 3) := by decide +kernel
theorem dX12_stepWays_121 : decode cX12_stepWays 121 = .ok (.goto (-119), 3) := by decide +kernel
theorem dX12_stepWays_124 : decode cX12_stepWays 124 = .ok (.return_, 1) := by decide +kernel
theorem ggX12_run_X12_isReader : GoodIn wsX12_run wsX12_isReader := gdC (gd1 m11_2)
theorem gX12_run_X12_isReader : GoodIn wsX12_run (va_wsS RX12 116 yX12_isReader wsX12_isReader) := gdC (gd3 m11_0 m11_1 m1_5 m11_2)
theorem ggX12_run_X12_in : GoodIn wsX12_run wsX12_in := gdC (gd1 m11_5)
theorem gX12_run_X12_in : GoodIn wsX12_run (va_wsS RX12 112 yX12_in wsX12_in) := gdC (gd3 m11_3 m11_4 m1_5 m11_5)
theorem ggX12_run_X12_countRuns : GoodIn wsX12_run wsX12_countRuns := gdC (gd1 m30_11)
theorem gX12_run_X12_countRuns : GoodIn wsX12_run (wsV RX12 292 RX12 yX12_countRuns wsX12_countRuns) := gdC (gd4 m30_8 m30_9 m30_10 m1_5 m30_11)
theorem ggX12_run_X12_goRow : GoodIn wsX12_run wsX12_goRow := gdC (gd1 m31_11)
theorem gX12_run_X12_goRow : GoodIn wsX12_run (wsV RX12 295 RX12 yX12_goRow wsX12_goRow) := gdC (gd4 m31_8 m31_9 m31_10 m1_5 m31_11)
theorem ggX12_run_X12_doesTake : GoodIn wsX12_run wsX12_doesTake := gdC (gd1 m33_9)
theorem gX12_run_X12_doesTake : GoodIn wsX12_run (wsV RX12 298 RX12 yX12_doesTake wsX12_doesTake) := gdC (gd4 m33_6 m33_7 m33_8 m1_5 m33_9)
theorem dX12_run_0 : decode cX12_run 0 = .ok (.iload_n 1, 1) := by decide +kernel
theorem dX12_run_1 : decode cX12_run 1 = .ok (.invokestatic 116, 3) := by decide +kernel
theorem dX12_run_4 : decode cX12_run 4 = .ok (.ifCond .ne 6, 3) := by decide +kernel
theorem dX12_run_7 : decode cX12_run 7 = .ok (.bipush (-2), 2) := by decide +kernel
theorem dX12_run_9 : decode cX12_run 9 = .ok (.ireturn, 1) := by decide +kernel
theorem dX12_run_10 : decode cX12_run 10 = .ok (.iload_n 2, 1) := by decide +kernel
theorem dX12_run_11 : decode cX12_run 11 = .ok (.iconst 0, 1) := by decide +kernel
theorem dX12_run_12 : decode cX12_run 12 = .ok (.aload_n 0, 1) := by decide +kernel
theorem dX12_run_13 : decode cX12_run 13 = .ok (.getfield 219, 3) := by decide +kernel
theorem dX12_run_16 : decode cX12_run 16 = .ok (.invokestatic 112, 3) := by decide +kernel
theorem dX12_run_19 : decode cX12_run 19 = .ok (.ifCond .eq 12, 3) := by decide +kernel
theorem dX12_run_22 : decode cX12_run 22 = .ok (.iload_n 3, 1) := by decide +kernel
theorem dX12_run_23 : decode cX12_run 23 = .ok (.iconst 0, 1) := by decide +kernel
theorem dX12_run_24 : decode cX12_run 24 = .ok (.iconst 2, 1) := by decide +kernel
theorem dX12_run_25 : decode cX12_run 25 = .ok (.invokestatic 112, 3) := by decide +kernel
theorem dX12_run_28 : decode cX12_run 28 = .ok (.ifCond .ne 6, 3) := by decide +kernel
theorem dX12_run_31 : decode cX12_run 31 = .ok (.bipush (-3), 2) := by decide +kernel
theorem dX12_run_33 : decode cX12_run 33 = .ok (.ireturn, 1) := by decide +kernel
theorem dX12_run_34 : decode cX12_run 34 = .ok (.iload_n 3, 1) := by decide +kernel
theorem dX12_run_35 : decode cX12_run 35 = .ok (.iconst 2, 1) := by decide +kernel
theorem dX12_run_36 : decode cX12_run 36 = .ok (.if_icmp .ne 35, 3) := by decide +kernel
theorem dX12_run_39 : decode cX12_run 39 = .ok (.aload_n 0, 1) := by decide +kernel
theorem dX12_run_40 : decode cX12_run 40 = .ok (.iload_n 1, 1) := by decide +kernel
theorem dX12_run_41 : decode cX12_run 41 = .ok (.iload_n 2, 1) := by decide +kernel
theorem dX12_run_42 : decode cX12_run 42 = .ok (.invokevirtual 292, 3) := by decide +kernel
theorem dX12_run_45 : decode cX12_run 45 = .ok (.aload_n 0, 1) := by decide +kernel
theorem dX12_run_46 : decode cX12_run 46 = .ok (.getfield 52, 3) := by decide +kernel
theorem dX12_run_49 : decode cX12_run 49 = .ok (.iconst 0, 1) := by decide +kernel
theorem dX12_run_50 : decode cX12_run 50 = .ok (.laload, 1) := by decide +kernel
theorem dX12_run_51 : decode cX12_run 51 = .ok (.aload_n 0, 1) := by decide +kernel
theorem dX12_run_52 : decode cX12_run 52 = .ok (.getfield 52, 3) := by decide +kernel
theorem dX12_run_55 : decode cX12_run 55 = .ok (.iconst 1, 1) := by decide +kernel
theorem dX12_run_56 : decode cX12_run 56 = .ok (.laload, 1) := by decide +kernel
theorem dX12_run_57 : decode cX12_run 57 = .ok (.ladd, 1) := by decide +kernel
theorem dX12_run_58 : decode cX12_run 58 = .ok (.aload_n 0, 1) := by decide +kernel
theorem dX12_run_59 : decode cX12_run 59 = .ok (.getfield 52, 3) := by decide +kernel
theorem dX12_run_62 : decode cX12_run 62 = .ok (.iconst 2, 1) := by decide +kernel
theorem dX12_run_63 : decode cX12_run 63 = .ok (.laload, 1) := by decide +kernel
theorem dX12_run_64 : decode cX12_run 64 = .ok (.ladd, 1) := by decide +kernel
theorem dX12_run_65 : decode cX12_run 65 = .ok (.ldc2_w 290, 3) := by decide +kernel
theorem dX12_run_68 : decode cX12_run 68 = .ok (.lrem, 1) := by decide +kernel
theorem dX12_run_69 : decode cX12_run 69 = .ok (.l2i, 1) := by decide +kernel
theorem dX12_run_70 : decode cX12_run 70 = .ok (.ireturn, 1) := by decide +kernel
theorem dX12_run_71 : decode cX12_run 71 = .ok (.aload_n 0, 1) := by decide +kernel
theorem dX12_run_72 : decode cX12_run 72 = .ok (.iload_n 1, 1) := by decide +kernel
theorem dX12_run_73 : decode cX12_run 73 = .ok (.iload_n 2, 1) := by decide +kernel
theorem dX12_run_74 : decode cX12_run 74 = .ok (.invokevirtual 295, 3) := by decide +kernel
theorem dX12_run_77 : decode cX12_run 77 = .ok (.iload_n 3, 1) := by decide +kernel
theorem dX12_run_78 : decode cX12_run 78 = .ok (.ifCond .ne 17, 3) := by decide +kernel
theorem dX12_run_81 : decode cX12_run 81 = .ok (.aload_n 0, 1) := by decide +kernel
theorem dX12_run_82 : decode cX12_run 82 = .ok (.getfield 242, 3) := by decide +kernel
theorem dX12_run_85 : decode cX12_run 85 = .ok (.iconst 3, 1) := by decide +kernel
theorem dX12_run_86 : decode cX12_run 86 = .ok (.iload_n 1, 1) := by decide +kernel
theorem dX12_run_87 : decode cX12_run 87 = .ok (.imul, 1) := by decide +kernel
theorem dX12_run_88 : decode cX12_run 88 = .ok (.ishr, 1) := by decide +kernel
theorem dX12_run_89 : decode cX12_run 89 = .ok (.bipush 7, 2) := by decide +kernel
theorem dX12_run_91 : decode cX12_run 91 = .ok (.iand, 1) := by decide +kernel
theorem dX12_run_92 : decode cX12_run 92 = .ok (.goto 20, 3) := by decide +kernel
theorem dX12_run_95 : decode cX12_run 95 = .ok (.aload_n 0, 1) := by decide +kernel
theorem dX12_run_96 : decode cX12_run 96 = .ok (.iload_n 1, 1) := by decide +kernel
theorem dX12_run_97 : decode cX12_run 97 = .ok (.aload_n 0, 1) := by decide +kernel
theorem dX12_run_98 : decode cX12_run 98 = .ok (.getfield 242, 3) := by decide +kernel
theorem dX12_run_101 : decode cX12_run 101 = .ok (.invokevirtual 298, 3) := by decide +kernel
theorem dX12_run_104 : decode cX12_run 104 = .ok (.ifCond .eq 7, 3) := by decide +kernel
theorem dX12_run_107 : decode cX12_run 107 = .ok (.iconst 1, 1) := by decide +kernel
theorem dX12_run_108 : decode cX12_run 108 = .ok (.goto 4, 3) := by decide +kernel
theorem dX12_run_111 : decode cX12_run 111 = .ok (.iconst 0, 1) := by decide +kernel
theorem dX12_run_112 : decode cX12_run 112 = .ok (.ireturn, 1) := by decide +kernel
theorem ggX12_between_X12_isReader : GoodIn wsX12_between wsX12_isReader := gdC (gd1 m11_2)
theorem gX12_between_X12_isReader : GoodIn wsX12_between (va_wsS RX12 116 yX12_isReader wsX12_isReader) := gdC (gd3 m11_0 m11_1 m1_5 m11_2)
theorem ggX12_between_X12_findPartners : GoodIn wsX12_between wsX12_findPartners := gdC (gd1 m25_15)
theorem gX12_between_X12_findPartners : GoodIn wsX12_between (wsV RX12 226 RX12 yX12_findPartners wsX12_findPartners) := gdC (gd4 m25_12 m25_13 m25_14 m1_5 m25_15)
theorem ggX12_between_X12_goRow : GoodIn wsX12_between wsX12_goRow := gdC (gd1 m31_11)
theorem gX12_between_X12_goRow : GoodIn wsX12_between (wsV RX12 295 RX12 yX12_goRow wsX12_goRow) := gdC (gd4 m31_8 m31_9 m31_10 m1_5 m31_11)
theorem dX12_between_0 : decode cX12_between 0 = .ok (.iload_n 1, 1) := by decide +kernel
theorem dX12_between_1 : decode cX12_between 1 = .ok (.invokestatic 116, 3) := by decide +kernel
theorem dX12_between_4 : decode cX12_between 4 = .ok (.ifCond .ne 6, 3) := by decide +kernel
theorem dX12_between_7 : decode cX12_between 7 = .ok (.bipush (-2), 2) := by decide +kernel
theorem dX12_between_9 : decode cX12_between 9 = .ok (.ireturn, 1) := by decide +kernel
theorem dX12_between_10 : decode cX12_between 10 = .ok (.aload_n 0, 1) := by decide +kernel
theorem dX12_between_11 : decode cX12_between 11 = .ok (.aload_n 0, 1) := by decide +kernel
theorem dX12_between_12 : decode cX12_between 12 = .ok (.getfield 219, 3) := by decide +kernel
theorem dX12_between_15 : decode cX12_between 15 = .ok (.invokevirtual 226, 3) := by decide +kernel
theorem dX12_between_18 : decode cX12_between 18 = .ok (.ifCond .ne 7, 3) := by decide +kernel
theorem dX12_between_21 : decode cX12_between 21 = .ok (.iconst 1, 1) := by decide +kernel
theorem dX12_between_22 : decode cX12_between 22 = .ok (.goto 4, 3) := by decide +kernel
theorem dX12_between_25 : decode cX12_between 25 = .ok (.iconst 0, 1) := by decide +kernel
theorem dX12_between_26 : decode cX12_between 26 = .ok (.istore_n 2, 1) := by decide +kernel
theorem dX12_between_27 : decode cX12_between 27 = .ok (.iconst 0, 1) := by decide +kernel
theorem dX12_between_28 : decode cX12_between 28 = .ok (.istore_n 3, 1) := by decide +kernel
theorem dX12_between_29 : decode cX12_between 29 = .ok (.iload_n 3, 1) := by decide +kernel
theorem dX12_between_30 : decode cX12_between 30 = .ok (.aload_n 0, 1) := by decide +kernel
theorem dX12_between_31 : decode cX12_between 31 = .ok (.getfield 219, 3) := by decide +kernel
theorem dX12_between_34 : decode cX12_between 34 = .ok (.if_icmp .ge 39, 3) := by decide +kernel
theorem dX12_between_37 : decode cX12_between 37 = .ok (.iload_n 2, 1) := by decide +kernel
theorem dX12_between_38 : decode cX12_between 38 = .ok (.ifCond .eq 27, 3) := by decide +kernel
theorem dX12_between_41 : decode cX12_between 41 = .ok (.aload_n 0, 1) := by decide +kernel
theorem dX12_between_42 : decode cX12_between 42 = .ok (.getfield 34, 3) := by decide +kernel
theorem dX12_between_45 : decode cX12_between 45 = .ok (.iload_n 3, 1) := by decide +kernel
theorem dX12_between_46 : decode cX12_between 46 = .ok (.iaload, 1) := by decide +kernel
theorem dX12_between_47 : decode cX12_between 47 = .ok (.iconst 4, 1) := by decide +kernel
theorem dX12_between_48 : decode cX12_between 48 = .ok (.if_icmp .lt 13, 3) := by decide +kernel
theorem dX12_between_51 : decode cX12_between 51 = .ok (.aload_n 0, 1) := by decide +kernel
theorem dX12_between_52 : decode cX12_between 52 = .ok (.getfield 37, 3) := by decide +kernel
theorem dX12_between_55 : decode cX12_between 55 = .ok (.iload_n 3, 1) := by decide +kernel
theorem dX12_between_56 : decode cX12_between 56 = .ok (.iaload, 1) := by decide +kernel
theorem dX12_between_57 : decode cX12_between 57 = .ok (.iconst (-1), 1) := by decide +kernel
theorem dX12_between_58 : decode cX12_between 58 = .ok (.if_icmp .eq 7, 3) := by decide +kernel
theorem dX12_between_61 : decode cX12_between 61 = .ok (.iconst 1, 1) := by decide +kernel
theorem dX12_between_62 : decode cX12_between 62 = .ok (.goto 4, 3) := by decide +kernel
theorem dX12_between_65 : decode cX12_between 65 = .ok (.iconst 0, 1) := by decide +kernel
theorem dX12_between_66 : decode cX12_between 66 = .ok (.istore_n 2, 1) := by decide +kernel
theorem dX12_between_67 : decode cX12_between 67 = .ok (.iinc 3 1, 3) := by decide +kernel
theorem dX12_between_70 : decode cX12_between 70 = .ok (.goto (-41), 3) := by decide +kernel
theorem dX12_between_73 : decode cX12_between 73 = .ok (.iload_n 2, 1) := by decide +kernel
theorem dX12_between_74 : decode cX12_between 74 = .ok (.ifCond .ne 6, 3) := by decide +kernel
theorem dX12_between_77 : decode cX12_between 77 = .ok (.bipush (-4), 2) := by decide +kernel
theorem dX12_between_79 : decode cX12_between 79 = .ok (.ireturn, 1) := by decide +kernel
theorem dX12_between_80 : decode cX12_between 80 = .ok (.aload_n 0, 1) := by decide +kernel
theorem dX12_between_81 : decode cX12_between 81 = .ok (.iload_n 1, 1) := by decide +kernel
theorem dX12_between_82 : decode cX12_between 82 = .ok (.aload_n 0, 1) := by decide +kernel
theorem dX12_between_83 : decode cX12_between 83 = .ok (.getfield 219, 3) := by decide +kernel
theorem dX12_between_86 : decode cX12_between 86 = .ok (.invokevirtual 295, 3) := by decide +kernel
theorem dX12_between_89 : decode cX12_between 89 = .ok (.aload_n 0, 1) := by decide +kernel
theorem dX12_between_90 : decode cX12_between 90 = .ok (.getfield 248, 3) := by decide +kernel
theorem dX12_between_93 : decode cX12_between 93 = .ok (.bipush 9, 2) := by decide +kernel
theorem dX12_between_95 : decode cX12_between 95 = .ok (.iload_n 1, 1) := by decide +kernel
theorem dX12_between_96 : decode cX12_between 96 = .ok (.imul, 1) := by decide +kernel
theorem dX12_between_97 : decode cX12_between 97 = .ok (.ishr, 1) := by decide +kernel
theorem dX12_between_98 : decode cX12_between 98 = .ok (.sipush 511, 3) := by decide +kernel
theorem dX12_between_101 : decode cX12_between 101 = .ok (.iand, 1) := by decide +kernel
theorem dX12_between_102 : decode cX12_between 102 = .ok (.ireturn, 1) := by decide +kernel
theorem dX12_meetWhole_0 : decode cX12_meetWhole 0 = .ok (.iconst 0, 1) := by decide +kernel
theorem dX12_meetWhole_1 : decode cX12_meetWhole 1 = .ok (.istore_n 3, 1) := by decide +kernel
theorem dX12_meetWhole_2 : decode cX12_meetWhole 2 = .ok (.iload_n 3, 1) := by decide +kernel
theorem dX12_meetWhole_3 : decode cX12_meetWhole 3 = .ok (.aload_n 0, 1) := by decide +kernel
theorem dX12_meetWhole_4 : decode cX12_meetWhole 4 = .ok (.getfield 301, 3) := by decide +kernel
theorem dX12_meetWhole_7 : decode cX12_meetWhole 7 = .ok (.if_icmp .ge 60, 3) := by decide +kernel
theorem dX12_meetWhole_10 : decode cX12_meetWhole 10 = .ok (.aload_n 0, 1) := by decide +kernel
theorem dX12_meetWhole_11 : decode cX12_meetWhole 11 = .ok (.getfield 72, 3) := by decide +kernel
theorem dX12_meetWhole_14 : decode cX12_meetWhole 14 = .ok (.iload_n 3, 1) := by decide +kernel
theorem dX12_meetWhole_15 : decode cX12_meetWhole 15 = .ok (.iaload, 1) := by decide +kernel
theorem dX12_meetWhole_16 : decode cX12_meetWhole 16 = .ok (.iload_n 1, 1) := by decide +kernel
theorem dX12_meetWhole_17 : decode cX12_meetWhole 17 = .ok (.if_icmp .ne 44, 3) := by decide +kernel
theorem dX12_meetWhole_20 : decode cX12_meetWhole 20 = .ok (.iload_n 2, 1) := by decide +kernel
theorem dX12_meetWhole_21 : decode cX12_meetWhole 21 = .ok (.aload_n 0, 1) := by decide +kernel
theorem dX12_meetWhole_22 : decode cX12_meetWhole 22 = .ok (.getfield 75, 3) := by decide +kernel
theorem dX12_meetWhole_25 : decode cX12_meetWhole 25 = .ok (.iload_n 3, 1) := by decide +kernel
theorem dX12_meetWhole_26 : decode cX12_meetWhole 26 = .ok (.iaload, 1) := by decide +kernel
theorem dX12_meetWhole_27 : decode cX12_meetWhole 27 = .ok (.if_icmp .ge 7, 3) := by decide +kernel
theorem dX12_meetWhole_30 : decode cX12_meetWhole 30 = .ok (.iconst 1, 1) := by decide +kernel
theorem dX12_meetWhole_31 : decode cX12_meetWhole 31 = .ok (.goto 4, 3) := by decide +kernel
theorem dX12_meetWhole_34 : decode cX12_meetWhole 34 = .ok (.iconst 0, 1) := by decide +kernel
theorem dX12_meetWhole_35 : decode cX12_meetWhole 35 = .ok (.istore 4, 2) := by decide +kernel
theorem dX12_meetWhole_37 : decode cX12_meetWhole 37 = .ok (.aload_n 0, 1) := by decide +kernel
theorem dX12_meetWhole_38 : decode cX12_meetWhole 38 = .ok (.getfield 75, 3) := by decide +kernel
theorem dX12_meetWhole_41 : decode cX12_meetWhole 41 = .ok (.iload_n 3, 1) := by decide +kernel
theorem dX12_meetWhole_42 : decode cX12_meetWhole 42 = .ok (.iload 4, 2) := by decide +kernel
theorem dX12_meetWhole_44 : decode cX12_meetWhole 44 = .ok (.ifCond .eq 7, 3) := by decide +kernel
theorem dX12_meetWhole_47 : decode cX12_meetWhole 47 = .ok (.iload_n 2, 1) := by decide +kernel
theorem dX12_meetWhole_48 : decode cX12_meetWhole 48 = .ok (.goto 9, 3) := by decide +kernel
theorem dX12_meetWhole_51 : decode cX12_meetWhole 51 = .ok (.aload_n 0, 1) := by decide +kernel
theorem dX12_meetWhole_52 : decode cX12_meetWhole 52 = .ok (.getfield 75, 3) := by decide +kernel
theorem dX12_meetWhole_55 : decode cX12_meetWhole 55 = .ok (.iload_n 3, 1) := by decide +kernel
theorem dX12_meetWhole_56 : decode cX12_meetWhole 56 = .ok (.iaload, 1) := by decide +kernel
theorem dX12_meetWhole_57 : decode cX12_meetWhole 57 = .ok (.iastore, 1) := by decide +kernel
theorem dX12_meetWhole_58 : decode cX12_meetWhole 58 = .ok (.iload 4, 2) := by decide +kernel
theorem dX12_meetWhole_60 : decode cX12_meetWhole 60 = .ok (.ireturn, 1) := by decide +kernel
theorem dX12_meetWhole_61 : decode cX12_meetWhole 61 = .ok (.iinc 3 1, 3) := by decide +kernel
theorem dX12_meetWhole_64 : decode cX12_meetWhole 64 = .ok (.goto (-62), 3) := by decide +kernel
theorem dX12_meetWhole_67 : decode cX12_meetWhole 67 = .ok (.aload_n 0, 1) := by decide +kernel
theorem dX12_meetWhole_68 : decode cX12_meetWhole 68 = .ok (.getfield 301, 3) := by decide +kernel
theorem dX12_meetWhole_71 : decode cX12_meetWhole 71 = .ok (.bipush 60, 2) := by decide +kernel
theorem dX12_meetWhole_73 : decode cX12_meetWhole 73 = .ok (.if_icmp .ne 10, 3) := by decide +kernel
theorem dX12_meetWhole_76 : decode cX12_meetWhole 76 = .ok (.aload_n 0, 1) := by decide +kernel
theorem dX12_meetWhole_77 : decode cX12_meetWhole 77 = .ok (.iconst 1, 1) := by decide +kernel
theorem dX12_meetWhole_78 : decode cX12_meetWhole 78 = .ok (.putfield 304, 3) := by decide +kernel
theorem dX12_meetWhole_81 : decode cX12_meetWhole 81 = .ok (.iconst 0, 1) := by decide +kernel
theorem dX12_meetWhole_82 : decode cX12_meetWhole 82 = .ok (.ireturn, 1) := by decide +kernel
theorem dX12_meetWhole_83 : decode cX12_meetWhole 83 = .ok (.aload_n 0, 1) := by decide +kernel
theorem dX12_meetWhole_84 : decode cX12_meetWhole 84 = .ok (.getfield 72, 3) := by decide +kernel
theorem dX12_meetWhole_87 : decode cX12_meetWhole 87 = .ok (.aload_n 0, 1) := by decide +kernel
theorem dX12_meetWhole_88 : decode cX12_meetWhole 88 = .ok (.getfield 301, 3) := by decide +kernel
theorem dX12_meetWhole_91 : decode cX12_meetWhole 91 = .ok (.iload_n 1, 1) := by decide +kernel
theorem dX12_meetWhole_92 : decode cX12_meetWhole 92 = .ok (.iastore, 1) := by decide +kernel
theorem dX12_meetWhole_93 : decode cX12_meetWhole 93 = .ok (.aload_n 0, 1) := by decide +kernel
theorem dX12_meetWhole_94 : decode cX12_meetWhole 94 = .ok (.getfield 75, 3) := by decide +kernel
theorem dX12_meetWhole_97 : decode cX12_meetWhole 97 = .ok (.aload_n 0, 1) := by decide +kernel
theorem dX12_meetWhole_98 : decode cX12_meetWhole 98 = .ok (.getfield 301, 3) := by decide +kernel
theorem dX12_meetWhole_101 : decode cX12_meetWhole 101 = .ok (.iload_n 2, 1) := by decide +kernel
theorem dX12_meetWhole_102 : decode cX12_meetWhole 102 = .ok (.iastore, 1) := by decide +kernel
theorem dX12_meetWhole_103 : decode cX12_meetWhole 103 = .ok (.aload_n 0, 1) := by decide +kernel
theorem dX12_meetWhole_104 : decode cX12_meetWhole 104 = .ok (.dup, 1) := by decide +kernel
theorem dX12_meetWhole_105 : decode cX12_meetWhole 105 = .ok (.getfield 301, 3) := by decide +kernel
theorem dX12_meetWhole_108 : decode cX12_meetWhole 108 = .ok (.iconst 1, 1) := by decide +kernel
theorem dX12_meetWhole_109 : decode cX12_meetWhole 109 = .ok (.iadd, 1) := by decide +kernel
theorem dX12_meetWhole_110 : decode cX12_meetWhole 110 = .ok (.putfield 301, 3) := by decide +kernel
theorem dX12_meetWhole_113 : decode cX12_meetWhole 113 = .ok (.iconst 1, 1) := by decide +kernel
theorem dX12_meetWhole_114 : decode cX12_meetWhole 114 = .ok (.ireturn, 1) := by decide +kernel
theorem ggX12_findWholes_X12_itself : GoodIn wsX12_findWholes wsX12_itself := gdC (gd1 m32_0)
theorem gX12_findWholes_X12_itself : GoodIn wsX12_findWholes (wsV RX12 245 RX12 yX12_itself wsX12_itself) := gdC (gd4 m31_21 m31_22 m31_23 m1_5 m32_0)
theorem ggX12_findWholes_X12_meetWhole : GoodIn wsX12_findWholes wsX12_meetWhole := gdC (gd1 m40_6)
theorem gX12_findWholes_X12_meetWhole : GoodIn wsX12_findWholes (wsV RX12 308 RX12 yX12_meetWhole wsX12_meetWhole) := gdC (gd4 m40_3 m40_4 m40_5 m1_5 m40_6)
theorem ggX12_findWholes_X12_plain : GoodIn wsX12_findWholes wsX12_plain := gdC (gd1 m32_15)
theorem gX12_findWholes_X12_plain : GoodIn wsX12_findWholes (wsV RX12 254 RX12 yX12_plain wsX12_plain) := gdC (gd4 m32_12 m32_13 m32_14 m1_5 m32_15)
theorem ggX12_findWholes_X12_follow : GoodIn wsX12_findWholes wsX12_follow := gdC (gd1 m32_21)
theorem gX12_findWholes_X12_follow : GoodIn wsX12_findWholes (va_wsS RX12 257 yX12_follow wsX12_follow) := gdC (gd3 m32_19 m32_20 m1_5 m32_21)
theorem ggX12_findWholes_X12_block : GoodIn wsX12_findWholes wsX12_block := gdC (gd1 m33_1)
theorem gX12_findWholes_X12_block : GoodIn wsX12_findWholes (wsV RX12 260 RX12 yX12_block wsX12_block) := gdC (gd4 m32_22 m32_23 m33_0 m1_5 m33_1)
theorem dX12_findWholes_0 : decode cX12_findWholes 0 = .ok (.aload_n 0, 1) := by decide +kernel
theorem dX12_findWholes_1 : decode cX12_findWholes 1 = .ok (.iconst 0, 1) := by decide +kernel
theorem dX12_findWholes_2 : decode cX12_findWholes 2 = .ok (.putfield 301, 3) := by decide +kernel
theorem dX12_findWholes_5 : decode cX12_findWholes 5 = .ok (.aload_n 0, 1) := by decide +kernel
theorem dX12_findWholes_6 : decode cX12_findWholes 6 = .ok (.aload_n 0, 1) := by decide +kernel
theorem dX12_findWholes_7 : decode cX12_findWholes 7 = .ok (.iload_n 1, 1) := by decide +kernel
theorem dX12_findWholes_8 : decode cX12_findWholes 8 = .ok (.invokevirtual 245, 3) := by decide +kernel
theorem dX12_findWholes_11 : decode cX12_findWholes 11 = .ok (.iconst 0, 1) := by decide +kernel
theorem dX12_findWholes_12 : decode cX12_findWholes 12 = .ok (.invokevirtual 308, 3) := by decide +kernel
theorem dX12_findWholes_15 : decode cX12_findWholes 15 = .ok (.pop, 1) := by decide +kernel
theorem dX12_findWholes_16 : decode cX12_findWholes 16 = .ok (.iconst 1, 1) := by decide +kernel
theorem dX12_findWholes_17 : decode cX12_findWholes 17 = .ok (.istore_n 2, 1) := by decide +kernel
theorem dX12_findWholes_18 : decode cX12_findWholes 18 = .ok (.iload_n 2, 1) := by decide +kernel
theorem dX12_findWholes_19 : decode cX12_findWholes 19 = .ok (.ifCond .eq 202, 3) := by decide +kernel
theorem dX12_findWholes_22 : decode cX12_findWholes 22 = .ok (.aload_n 0, 1) := by decide +kernel
theorem dX12_findWholes_23 : decode cX12_findWholes 23 = .ok (.getfield 304, 3) := by decide +kernel
theorem dX12_findWholes_26 : decode cX12_findWholes 26 = .ok (.ifCond .ne 195, 3) := by decide +kernel
theorem dX12_findWholes_29 : decode cX12_findWholes 29 = .ok (.iconst 0, 1) := by decide +kernel
theorem dX12_findWholes_30 : decode cX12_findWholes 30 = .ok (.istore_n 2, 1) := by decide +kernel
theorem dX12_findWholes_31 : decode cX12_findWholes 31 = .ok (.iconst 0, 1) := by decide +kernel
theorem dX12_findWholes_32 : decode cX12_findWholes 32 = .ok (.istore_n 3, 1) := by decide +kernel
theorem dX12_findWholes_33 : decode cX12_findWholes 33 = .ok (.iload_n 3, 1) := by decide +kernel
theorem dX12_findWholes_34 : decode cX12_findWholes 34 = .ok (.aload_n 0, 1) := by decide +kernel
theorem dX12_findWholes_35 : decode cX12_findWholes 35 = .ok (.getfield 301, 3) := by decide +kernel
theorem dX12_findWholes_38 : decode cX12_findWholes 38 = .ok (.if_icmp .ge 180, 3) := by decide +kernel
theorem dX12_findWholes_41 : decode cX12_findWholes 41 = .ok (.aload_n 0, 1) := by decide +kernel
theorem dX12_findWholes_42 : decode cX12_findWholes 42 = .ok (.getfield 304, 3) := by decide +kernel
theorem dX12_findWholes_45 : decode cX12_findWholes 45 = .ok (.ifCond .ne 173, 3) := by decide +kernel
theorem dX12_findWholes_48 : decode cX12_findWholes 48 = .ok (.iconst 2, 1) := by decide +kernel
theorem dX12_findWholes_49 : decode cX12_findWholes 49 = .ok (.istore 4, 2) := by decide +kernel
theorem dX12_findWholes_51 : decode cX12_findWholes 51 = .ok (.iload 4, 2) := by decide +kernel
theorem dX12_findWholes_53 : decode cX12_findWholes 53 = .ok (.iconst 4, 1) := by decide +kernel
theorem dX12_findWholes_54 : decode cX12_findWholes 54 = .ok (.if_icmp .ge 50, 3) := by decide +kernel
theorem dX12_findWholes_57 : decode cX12_findWholes 57 = .ok (.aload_n 0, 1) := by decide +kernel
theorem dX12_findWholes_58 : decode cX12_findWholes 58 = .ok (.aload_n 0, 1) := by decide +kernel
theorem dX12_findWholes_59 : decode cX12_findWholes 59 = .ok (.getfield 72, 3) := by decide +kernel
theorem dX12_findWholes_62 : decode cX12_findWholes 62 = .ok (.iload_n 3, 1) := by decide +kernel
theorem dX12_findWholes_63 : decode cX12_findWholes 63 = .ok (.iaload, 1) := by decide +kernel
theorem dX12_findWholes_64 : decode cX12_findWholes 64 = .ok (.aload_n 0, 1) := by decide +kernel
theorem dX12_findWholes_65 : decode cX12_findWholes 65 = .ok (.iload_n 1, 1) := by decide +kernel
theorem dX12_findWholes_66 : decode cX12_findWholes 66 = .ok (.iload 4, 2) := by decide +kernel
theorem dX12_findWholes_68 : decode cX12_findWholes 68 = .ok (.invokevirtual 254, 3) := by decide +kernel
theorem dX12_findWholes_71 : decode cX12_findWholes 71 = .ok (.invokestatic 257, 3) := by decide +kernel
theorem dX12_findWholes_74 : decode cX12_findWholes 74 = .ok (.aload_n 0, 1) := by decide +kernel
theorem dX12_findWholes_75 : decode cX12_findWholes 75 = .ok (.getfield 75, 3) := by decide +kernel
theorem dX12_findWholes_78 : decode cX12_findWholes 78 = .ok (.iload_n 3, 1) := by decide +kernel
theorem dX12_findWholes_79 : decode cX12_findWholes 79 = .ok (.iaload, 1) := by decide +kernel
theorem dX12_findWholes_80 : decode cX12_findWholes 80 = .ok (.iconst 1, 1) := by decide +kernel
theorem dX12_findWholes_81 : decode cX12_findWholes 81 = .ok (.iadd, 1) := by decide +kernel
theorem dX12_findWholes_82 : decode cX12_findWholes 82 = .ok (.invokevirtual 308, 3) := by decide +kernel
theorem dX12_findWholes_85 : decode cX12_findWholes 85 = .ok (.ifCond .ne 7, 3) := by decide +kernel
theorem dX12_findWholes_88 : decode cX12_findWholes 88 = .ok (.iload_n 2, 1) := by decide +kernel
theorem dX12_findWholes_89 : decode cX12_findWholes 89 = .ok (.ifCond .eq 7, 3) := by decide +kernel
theorem dX12_findWholes_92 : decode cX12_findWholes 92 = .ok (.iconst 1, 1) := by decide +kernel
theorem dX12_findWholes_93 : decode cX12_findWholes 93 = .ok (.goto 4, 3) := by decide +kernel
theorem dX12_findWholes_96 : decode cX12_findWholes 96 = .ok (.iconst 0, 1) := by decide +kernel
theorem dX12_findWholes_97 : decode cX12_findWholes 97 = .ok (.istore_n 2, 1) := by decide +kernel
theorem dX12_findWholes_98 : decode cX12_findWholes 98 = .ok (.iinc 4 1, 3) := by decide +kernel
theorem dX12_findWholes_101 : decode cX12_findWholes 101 = .ok (.goto (-50), 3) := by decide +kernel
theorem dX12_findWholes_104 : decode cX12_findWholes 104 = .ok (.iconst 0, 1) := by decide +kernel
theorem dX12_findWholes_105 : decode cX12_findWholes 105 = .ok (.istore 4, 2) := by decide +kernel
theorem dX12_findWholes_107 : decode cX12_findWholes 107 = .ok (.iload 4, 2) := by decide +kernel
theorem dX12_findWholes_109 : decode cX12_findWholes 109 = .ok (.aload_n 0, 1) := by decide +kernel
theorem dX12_findWholes_110 : decode cX12_findWholes 110 = .ok (.getfield 301, 3) := by decide +kernel
theorem dX12_findWholes_113 : decode cX12_findWholes 113 = .ok (.if_icmp .ge 99, 3) := by decide +kernel
theorem dX12_findWholes_116 : decode cX12_findWholes 116 = .ok (.aload_n 0, 1) := by decide +kernel
theorem dX12_findWholes_117 : decode cX12_findWholes 117 = .ok (.getfield 304, 3) := by decide +kernel
theorem dX12_findWholes_120 : decode cX12_findWholes 120 = .ok (.ifCond .ne 92, 3) := by decide +kernel
theorem dX12_findWholes_123 : decode cX12_findWholes 123 = .ok (.iconst 0, 1) := by decide +kernel
theorem dX12_findWholes_124 : decode cX12_findWholes 124 = .ok (.istore 5, 2) := by decide +kernel
theorem dX12_findWholes_126 : decode cX12_findWholes 126 = .ok (.iload 5, 2) := by decide +kernel
theorem dX12_findWholes_128 : decode cX12_findWholes 128 = .ok (.iconst 4, 1) := by decide +kernel
theorem dX12_findWholes_129 : decode cX12_findWholes 129 = .ok (.if_icmp .ge 77, 3) := by decide +kernel
theorem dX12_findWholes_132 : decode cX12_findWholes 132 = .ok (.aload_n 0, 1) := by decide +kernel
theorem dX12_findWholes_133 : decode cX12_findWholes 133 = .ok (.iload_n 1, 1) := by decide +kernel
theorem dX12_findWholes_134 : decode cX12_findWholes 134 = .ok (.iload 5, 2) := by decide +kernel
theorem dX12_findWholes_136 : decode cX12_findWholes 136 = .ok (.iconst 2, 1) := by decide +kernel
theorem dX12_findWholes_137 : decode cX12_findWholes 137 = .ok (.idiv, 1) := by decide +kernel
theorem dX12_findWholes_138 : decode cX12_findWholes 138 = .ok (.aload_n 0, 1) := by decide +kernel
theorem dX12_findWholes_139 : decode cX12_findWholes 139 = .ok (.getfield 72, 3) := by decide +kernel
theorem dX12_findWholes_142 : decode cX12_findWholes 142 = .ok (.iload 4, 2) := by decide +kernel
theorem dX12_findWholes_144 : decode cX12_findWholes 144 = .ok (.iaload, 1) := by decide +kernel
theorem dX12_findWholes_145 : decode cX12_findWholes 145 = .ok (.iconst 4, 1) := by decide +kernel
theorem dX12_findWholes_146 : decode cX12_findWholes 146 = .ok (.iload 5, 2) := by decide +kernel
theorem dX12_findWholes_148 : decode cX12_findWholes 148 = .ok (.iconst 2, 1) := by decide +kernel
theorem dX12_findWholes_149 : decode cX12_findWholes 149 = .ok (.irem, 1) := by decide +kernel
theorem dX12_findWholes_150 : decode cX12_findWholes 150 = .ok (.iadd, 1) := by decide +kernel
theorem dX12_findWholes_151 : decode cX12_findWholes 151 = .ok (.invokevirtual 260, 3) := by decide +kernel
theorem dX12_findWholes_154 : decode cX12_findWholes 154 = .ok (.istore 6, 2) := by decide +kernel
theorem dX12_findWholes_156 : decode cX12_findWholes 156 = .ok (.aload_n 0, 1) := by decide +kernel
theorem dX12_findWholes_157 : decode cX12_findWholes 157 = .ok (.aload_n 0, 1) := by decide +kernel
theorem dX12_findWholes_158 : decode cX12_findWholes 158 = .ok (.getfield 72, 3) := by decide +kernel
theorem dX12_findWholes_161 : decode cX12_findWholes 161 = .ok (.iload_n 3, 1) := by decide +kernel
theorem dX12_findWholes_162 : decode cX12_findWholes 162 = .ok (.iaload, 1) := by decide +kernel
theorem dX12_findWholes_163 : decode cX12_findWholes 163 = .ok (.iload 6, 2) := by decide +kernel
theorem dX12_findWholes_165 : decode cX12_findWholes 165 = .ok (.invokestatic 257, 3) := by decide +kernel
theorem dX12_findWholes_168 : decode cX12_findWholes 168 = .ok (.aload_n 0, 1) := by decide +kernel
theorem dX12_findWholes_169 : decode cX12_findWholes 169 = .ok (.getfield 75, 3) := by decide +kernel
theorem dX12_findWholes_172 : decode cX12_findWholes 172 = .ok (.iload_n 3, 1) := by decide +kernel
theorem dX12_findWholes_173 : decode cX12_findWholes 173 = .ok (.iaload, 1) := by decide +kernel
theorem dX12_findWholes_174 : decode cX12_findWholes 174 = .ok (.aload_n 0, 1) := by decide +kernel
theorem dX12_findWholes_175 : decode cX12_findWholes 175 = .ok (.getfield 75, 3) := by decide +kernel
theorem dX12_findWholes_178 : decode cX12_findWholes 178 = .ok (.iload 4, 2) := by decide +kernel
theorem dX12_findWholes_180 : decode cX12_findWholes 180 = .ok (.iaload, 1) := by decide +kernel
theorem dX12_findWholes_181 : decode cX12_findWholes 181 = .ok (.iadd, 1) := by decide +kernel
theorem dX12_findWholes_182 : decode cX12_findWholes 182 = .ok (.iconst 2, 1) := by decide +kernel
theorem dX12_findWholes_183 : decode cX12_findWholes 183 = .ok (.iadd, 1) := by decide +kernel
theorem dX12_findWholes_184 : decode cX12_findWholes 184 = .ok (.invokevirtual 308, 3) := by decide +kernel
theorem dX12_findWholes_187 : decode cX12_findWholes 187 = .ok (.ifCond .ne 7, 3) := by decide +kernel
theorem dX12_findWholes_190 : decode cX12_findWholes 190 = .ok (.iload_n 2, 1) := by decide +kernel
theorem dX12_findWholes_191 : decode cX12_findWholes 191 = .ok (.ifCond .eq 7, 3) := by decide +kernel
theorem dX12_findWholes_194 : decode cX12_findWholes 194 = .ok (.iconst 1, 1) := by decide +kernel
theorem dX12_findWholes_195 : decode cX12_findWholes 195 = .ok (.goto 4, 3) := by decide +kernel
theorem dX12_findWholes_198 : decode cX12_findWholes 198 = .ok (.iconst 0, 1) := by decide +kernel
theorem dX12_findWholes_199 : decode cX12_findWholes 199 = .ok (.istore_n 2, 1) := by decide +kernel
theorem dX12_findWholes_200 : decode cX12_findWholes 200 = .ok (.iinc 5 1, 3) := by decide +kernel
theorem dX12_findWholes_203 : decode cX12_findWholes 203 = .ok (.goto (-77), 3) := by decide +kernel
theorem dX12_findWholes_206 : decode cX12_findWholes 206 = .ok (.iinc 4 1, 3) := by decide +kernel
theorem dX12_findWholes_209 : decode cX12_findWholes 209 = .ok (.goto (-102), 3) := by decide +kernel
theorem dX12_findWholes_212 : decode cX12_findWholes 212 = .ok (.iinc 3 1, 3) := by decide +kernel
theorem dX12_findWholes_215 : decode cX12_findWholes 215 = .ok (.goto (-182), 3) := by decide +kernel
theorem dX12_findWholes_218 : decode cX12_findWholes 218 = .ok (.goto (-200), 3) := by decide +kernel
theorem dX12_findWholes_221 : decode cX12_findWholes 221 = .ok (.return_, 1) := by decide +kernel
theorem dX12_nodeOf_0 : decode cX12_nodeOf 0 = .ok (.iconst 0, 1) := by decide +kernel
theorem dX12_nodeOf_1 : decode cX12_nodeOf 1 = .ok (.istore 4, 2) := by decide +kernel
theorem dX12_nodeOf_3 : decode cX12_nodeOf 3 = .ok (.iload 4, 2) := by decide +kernel
theorem dX12_nodeOf_5 : decode cX12_nodeOf 5 = .ok (.aload_n 0, 1) := by decide +kernel
theorem dX12_nodeOf_6 : decode cX12_nodeOf 6 = .ok (.getfield 311, 3) := by decide +kernel
theorem dX12_nodeOf_9 : decode cX12_nodeOf 9 = .ok (.if_icmp .ge 45, 3) := by decide +kernel
theorem dX12_nodeOf_12 : decode cX12_nodeOf 12 = .ok (.aload_n 0, 1) := by decide +kernel
theorem dX12_nodeOf_13 : decode cX12_nodeOf 13 = .ok (.getfield 78, 3) := by decide +kernel
theorem dX12_nodeOf_16 : decode cX12_nodeOf 16 = .ok (.iload 4, 2) := by decide +kernel
theorem dX12_nodeOf_18 : decode cX12_nodeOf 18 = .ok (.iaload, 1) := by decide +kernel
theorem dX12_nodeOf_19 : decode cX12_nodeOf 19 = .ok (.iload_n 1, 1) := by decide +kernel
theorem dX12_nodeOf_20 : decode cX12_nodeOf 20 = .ok (.if_icmp .ne 28, 3) := by decide +kernel
theorem dX12_nodeOf_23 : decode cX12_nodeOf 23 = .ok (.aload_n 0, 1) := by decide +kernel
theorem dX12_nodeOf_24 : decode cX12_nodeOf 24 = .ok (.getfield 81, 3) := by decide +kernel
theorem dX12_nodeOf_27 : decode cX12_nodeOf 27 = .ok (.iload 4, 2) := by decide +kernel
theorem dX12_nodeOf_29 : decode cX12_nodeOf 29 = .ok (.iaload, 1) := by decide +kernel
theorem dX12_nodeOf_30 : decode cX12_nodeOf 30 = .ok (.iload_n 2, 1) := by decide +kernel
theorem dX12_nodeOf_31 : decode cX12_nodeOf 31 = .ok (.if_icmp .ne 17, 3) := by decide +kernel
theorem dX12_nodeOf_34 : decode cX12_nodeOf 34 = .ok (.aload_n 0, 1) := by decide +kernel
theorem dX12_nodeOf_35 : decode cX12_nodeOf 35 = .ok (.getfield 84, 3) := by decide +kernel
theorem dX12_nodeOf_38 : decode cX12_nodeOf 38 = .ok (.iload 4, 2) := by decide +kernel
theorem dX12_nodeOf_40 : decode cX12_nodeOf 40 = .ok (.baload, 1) := by decide +kernel
theorem dX12_nodeOf_41 : decode cX12_nodeOf 41 = .ok (.iload_n 3, 1) := by decide +kernel
theorem dX12_nodeOf_42 : decode cX12_nodeOf 42 = .ok (.if_icmp .ne 6, 3) := by decide +kernel
theorem dX12_nodeOf_45 : decode cX12_nodeOf 45 = .ok (.iload 4, 2) := by decide +kernel
theorem dX12_nodeOf_47 : decode cX12_nodeOf 47 = .ok (.ireturn, 1) := by decide +kernel
theorem dX12_nodeOf_48 : decode cX12_nodeOf 48 = .ok (.iinc 4 1, 3) := by decide +kernel
theorem dX12_nodeOf_51 : decode cX12_nodeOf 51 = .ok (.goto (-48), 3) := by decide +kernel
theorem dX12_nodeOf_54 : decode cX12_nodeOf 54 = .ok (.iconst (-1), 1) := by decide +kernel
theorem dX12_nodeOf_55 : decode cX12_nodeOf 55 = .ok (.ireturn, 1) := by decide +kernel
theorem ggX12_meetNode_X12_nodeOf : GoodIn wsX12_meetNode wsX12_nodeOf := gdC (gd1 m40_14)
