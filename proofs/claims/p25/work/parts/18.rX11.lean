theorem ggX11_init_X5_init : GoodIn wsX11_init wsX5_init := gdC (gd1 m3_12)
theorem gX11_init_X5_init_n9 : GoodIn wsX11_init wsX5_init := gdC (gd1 m3_12)
theorem ggX11_init_X8_init : GoodIn wsX11_init wsX8_init := gdC (gd1 m3_21)
theorem gX11_init_X8_init_n21 : GoodIn wsX11_init wsX8_init := gdC (gd1 m3_21)
theorem ggX11_init_X6_init : GoodIn wsX11_init wsX6_init := gdC (gd1 m4_8)
theorem gX11_init_X6_init_n28 : GoodIn wsX11_init wsX6_init := gdC (gd1 m4_8)
theorem ggX11_init_X9_init : GoodIn wsX11_init wsX9_init := gdC (gd1 m4_14)
theorem gX11_init_X9_init_n35 : GoodIn wsX11_init wsX9_init := gdC (gd1 m4_14)
theorem ggX11_init_X7_init : GoodIn wsX11_init wsX7_init := gdC (gd1 m4_20)
theorem gX11_init_X7_init_n42 : GoodIn wsX11_init wsX7_init := gdC (gd1 m4_20)
theorem ggX11_init_X1_init : GoodIn wsX11_init wsX1_init := gdC (gd1 m5_5)
theorem gX11_init_X1_init : GoodIn wsX11_init wsX1_init := gdC (gd1 m5_5)
theorem ggX11_init_X4_init : GoodIn wsX11_init wsX4_init := gdC (gd1 m5_12)
theorem gX11_init_X4_init : GoodIn wsX11_init wsX4_init := gdC (gd1 m5_12)
theorem ggX11_init_X2_init : GoodIn wsX11_init wsX2_init := gdC (gd1 m6_23)
theorem gX11_init_X2_init : GoodIn wsX11_init wsX2_init := gdC (gd1 m6_23)
theorem ggX11_init_X0_init : GoodIn wsX11_init wsX0_init := gdC (gd1 m7_15)
theorem gX11_init_X0_init : GoodIn wsX11_init wsX0_init := gdC (gd1 m7_15)
theorem ggX11_init_X3_init : GoodIn wsX11_init wsX3_init := gdC (gd1 m8_5)
theorem gX11_init_X3_init : GoodIn wsX11_init wsX3_init := gdC (gd1 m8_5)
theorem dX11_init_0 : decode cX11_init 0 = .ok (.aload_n 0, 1) := by decide +kernel
theorem dX11_init_1 : decode cX11_init 1 = .ok (.invokespecial 1, 3) := by decide +kernel
theorem dX11_init_4 : decode cX11_init 4 = .ok (.aload_n 0, 1) := by decide +kernel
theorem dX11_init_5 : decode cX11_init 5 = .ok (.new 7, 3) := by decide +kernel
theorem dX11_init_8 : decode cX11_init 8 = .ok (.dup, 1) := by decide +kernel
theorem dX11_init_9 : decode cX11_init 9 = .ok (.invokespecial 9, 3) := by decide +kernel
theorem dX11_init_12 : decode cX11_init 12 = .ok (.putfield 10, 3) := by decide +kernel
theorem dX11_init_15 : decode cX11_init 15 = .ok (.aload_n 0, 1) := by decide +kernel
theorem dX11_init_16 : decode cX11_init 16 = .ok (.new 7, 3) := by decide +kernel
theorem dX11_init_19 : decode cX11_init 19 = .ok (.dup, 1) := by decide +kernel
theorem dX11_init_20 : decode cX11_init 20 = .ok (.invokespecial 9, 3) := by decide +kernel
theorem dX11_init_23 : decode cX11_init 23 = .ok (.putfield 16, 3) := by decide +kernel
theorem dX11_init_26 : decode cX11_init 26 = .ok (.aload_n 0, 1) := by decide +kernel
theorem dX11_init_27 : decode cX11_init 27 = .ok (.new 19, 3) := by decide +kernel
theorem dX11_init_30 : decode cX11_init 30 = .ok (.dup, 1) := by decide +kernel
theorem dX11_init_31 : decode cX11_init 31 = .ok (.invokespecial 21, 3) := by decide +kernel
theorem dX11_init_34 : decode cX11_init 34 = .ok (.putfield 22, 3) := by decide +kernel
theorem dX11_init_37 : decode cX11_init 37 = .ok (.aload_n 0, 1) := by decide +kernel
theorem dX11_init_38 : decode cX11_init 38 = .ok (.new 26, 3) := by decide +kernel
theorem dX11_init_41 : decode cX11_init 41 = .ok (.dup, 1) := by decide +kernel
theorem dX11_init_42 : decode cX11_init 42 = .ok (.invokespecial 28, 3) := by decide +kernel
theorem dX11_init_45 : decode cX11_init 45 = .ok (.putfield 29, 3) := by decide +kernel
theorem dX11_init_48 : decode cX11_init 48 = .ok (.aload_n 0, 1) := by decide +kernel
theorem dX11_init_49 : decode cX11_init 49 = .ok (.new 33, 3) := by decide +kernel
theorem dX11_init_52 : decode cX11_init 52 = .ok (.dup, 1) := by decide +kernel
theorem dX11_init_53 : decode cX11_init 53 = .ok (.invokespecial 35, 3) := by decide +kernel
theorem dX11_init_56 : decode cX11_init 56 = .ok (.putfield 36, 3) := by decide +kernel
theorem dX11_init_59 : decode cX11_init 59 = .ok (.aload_n 0, 1) := by decide +kernel
theorem dX11_init_60 : decode cX11_init 60 = .ok (.new 40, 3) := by decide +kernel
theorem dX11_init_63 : decode cX11_init 63 = .ok (.dup, 1) := by decide +kernel
theorem dX11_init_64 : decode cX11_init 64 = .ok (.invokespecial 42, 3) := by decide +kernel
theorem dX11_init_67 : decode cX11_init 67 = .ok (.putfield 43, 3) := by decide +kernel
theorem dX11_init_70 : decode cX11_init 70 = .ok (.aload_n 0, 1) := by decide +kernel
theorem dX11_init_71 : decode cX11_init 71 = .ok (.new 47, 3) := by decide +kernel
theorem dX11_init_74 : decode cX11_init 74 = .ok (.dup, 1) := by decide +kernel
theorem dX11_init_75 : decode cX11_init 75 = .ok (.new 49, 3) := by decide +kernel
theorem dX11_init_78 : decode cX11_init 78 = .ok (.dup, 1) := by decide +kernel
theorem dX11_init_79 : decode cX11_init 79 = .ok (.aload_n 0, 1) := by decide +kernel
theorem dX11_init_80 : decode cX11_init 80 = .ok (.getfield 10, 3) := by decide +kernel
theorem dX11_init_83 : decode cX11_init 83 = .ok (.aload_n 0, 1) := by decide +kernel
theorem dX11_init_84 : decode cX11_init 84 = .ok (.getfield 10, 3) := by decide +kernel
theorem dX11_init_87 : decode cX11_init 87 = .ok (.iconst 0, 1) := by decide +kernel
theorem dX11_init_88 : decode cX11_init 88 = .ok (.invokespecial 51, 3) := by decide +kernel
theorem dX11_init_91 : decode cX11_init 91 = .ok (.invokespecial 54, 3) := by decide +kernel
theorem dX11_init_94 : decode cX11_init 94 = .ok (.putfield 57, 3) := by decide +kernel
theorem dX11_init_97 : decode cX11_init 97 = .ok (.aload_n 0, 1) := by decide +kernel
theorem dX11_init_98 : decode cX11_init 98 = .ok (.new 47, 3) := by decide +kernel
theorem dX11_init_101 : decode cX11_init 101 = .ok (.dup, 1) := by decide +kernel
theorem dX11_init_102 : decode cX11_init 102 = .ok (.new 49, 3) := by decide +kernel
theorem dX11_init_105 : decode cX11_init 105 = .ok (.dup, 1) := by decide +kernel
theorem dX11_init_106 : decode cX11_init 106 = .ok (.aload_n 0, 1) := by decide +kernel
theorem dX11_init_107 : decode cX11_init 107 = .ok (.getfield 16, 3) := by decide +kernel
theorem dX11_init_110 : decode cX11_init 110 = .ok (.aload_n 0, 1) := by decide +kernel
theorem dX11_init_111 : decode cX11_init 111 = .ok (.getfield 16, 3) := by decide +kernel
theorem dX11_init_114 : decode cX11_init 114 = .ok (.iconst 0, 1) := by decide +kernel
theorem dX11_init_115 : decode cX11_init 115 = .ok (.invokespecial 51, 3) := by decide +kernel
theorem dX11_init_118 : decode cX11_init 118 = .ok (.invokespecial 54, 3) := by decide +kernel
theorem dX11_init_121 : decode cX11_init 121 = .ok (.putfield 61, 3) := by decide +kernel
theorem dX11_init_124 : decode cX11_init 124 = .ok (.aload_n 0, 1) := by decide +kernel
theorem dX11_init_125 : decode cX11_init 125 = .ok (.new 47, 3) := by decide +kernel
theorem dX11_init_128 : decode cX11_init 128 = .ok (.dup, 1) := by decide +kernel
theorem dX11_init_129 : decode cX11_init 129 = .ok (.new 49, 3) := by decide +kernel
theorem dX11_init_132 : decode cX11_init 132 = .ok (.dup, 1) := by decide +kernel
theorem dX11_init_133 : decode cX11_init 133 = .ok (.aload_n 0, 1) := by decide +kernel
theorem dX11_init_134 : decode cX11_init 134 = .ok (.getfield 10, 3) := by decide +kernel
theorem dX11_init_137 : decode cX11_init 137 = .ok (.aload_n 0, 1) := by decide +kernel
theorem dX11_init_138 : decode cX11_init 138 = .ok (.getfield 16, 3) := by decide +kernel
theorem dX11_init_141 : decode cX11_init 141 = .ok (.iconst 1, 1) := by decide +kernel
theorem dX11_init_142 : decode cX11_init 142 = .ok (.invokespecial 51, 3) := by decide +kernel
theorem dX11_init_145 : decode cX11_init 145 = .ok (.invokespecial 54, 3) := by decide +kernel
theorem dX11_init_148 : decode cX11_init 148 = .ok (.putfield 64, 3) := by decide +kernel
theorem dX11_init_151 : decode cX11_init 151 = .ok (.aload_n 0, 1) := by decide +kernel
theorem dX11_init_152 : decode cX11_init 152 = .ok (.new 67, 3) := by decide +kernel
theorem dX11_init_155 : decode cX11_init 155 = .ok (.dup, 1) := by decide +kernel
theorem dX11_init_156 : decode cX11_init 156 = .ok (.aload_n 0, 1) := by decide +kernel
theorem dX11_init_157 : decode cX11_init 157 = .ok (.getfield 57, 3) := by decide +kernel
theorem dX11_init_160 : decode cX11_init 160 = .ok (.invokespecial 69, 3) := by decide +kernel
theorem dX11_init_163 : decode cX11_init 163 = .ok (.putfield 72, 3) := by decide +kernel
theorem dX11_init_166 : decode cX11_init 166 = .ok (.aload_n 0, 1) := by decide +kernel
theorem dX11_init_167 : decode cX11_init 167 = .ok (.new 67, 3) := by decide +kernel
theorem dX11_init_170 : decode cX11_init 170 = .ok (.dup, 1) := by decide +kernel
theorem dX11_init_171 : decode cX11_init 171 = .ok (.aload_n 0, 1) := by decide +kernel
theorem dX11_init_172 : decode cX11_init 172 = .ok (.getfield 61, 3) := by decide +kernel
theorem dX11_init_175 : decode cX11_init 175 = .ok (.invokespecial 69, 3) := by decide +kernel
theorem dX11_init_178 : decode cX11_init 178 = .ok (.putfield 76, 3) := by decide +kernel
theorem dX11_init_181 : decode cX11_init 181 = .ok (.aload_n 0, 1) := by decide +kernel
theorem dX11_init_182 : decode cX11_init 182 = .ok (.new 67, 3) := by decide +kernel
theorem dX11_init_185 : decode cX11_init 185 = .ok (.dup, 1) := by decide +kernel
theorem dX11_init_186 : decode cX11_init 186 = .ok (.aload_n 0, 1) := by decide +kernel
theorem dX11_init_187 : decode cX11_init 187 = .ok (.getfield 64, 3) := by decide +kernel
theorem dX11_init_190 : decode cX11_init 190 = .ok (.invokespecial 69, 3) := by decide +kernel
theorem dX11_init_193 : decode cX11_init 193 = .ok (.putfield 79, 3) := by decide +kernel
theorem dX11_init_196 : decode cX11_init 196 = .ok (.aload_n 0, 1) := by decide +kernel
theorem dX11_init_197 : decode cX11_init 197 = .ok (.new 82, 3) := by decide +kernel
theorem dX11_init_200 : decode cX11_init 200 = .ok (.dup, 1) := by decide +kernel
theorem dX11_init_201 : decode cX11_init 201 = .ok (.aload_n 0, 1) := by decide +kernel
theorem dX11_init_202 : decode cX11_init 202 = .ok (.getfield 57, 3) := by decide +kernel
theorem dX11_init_205 : decode cX11_init 205 = .ok (.invokespecial 84, 3) := by decide +kernel
theorem dX11_init_208 : decode cX11_init 208 = .ok (.putfield 85, 3) := by decide +kernel
theorem dX11_init_211 : decode cX11_init 211 = .ok (.aload_n 0, 1) := by decide +kernel
theorem dX11_init_212 : decode cX11_init 212 = .ok (.new 82, 3) := by decide +kernel
theorem dX11_init_215 : decode cX11_init 215 = .ok (.dup, 1) := by decide +kernel
theorem dX11_init_216 : decode cX11_init 216 = .ok (.aload_n 0, 1) := by decide +kernel
theorem dX11_init_217 : decode cX11_init 217 = .ok (.getfield 61, 3) := by decide +kernel
theorem dX11_init_220 : decode cX11_init 220 = .ok (.invokespecial 84, 3) := by decide +kernel
theorem dX11_init_223 : decode cX11_init 223 = .ok (.putfield 89, 3) := by decide +kernel
theorem dX11_init_226 : decode cX11_init 226 = .ok (.aload_n 0, 1) := by decide +kernel
theorem dX11_init_227 : decode cX11_init 227 = .ok (.new 92, 3) := by decide +kernel
theorem dX11_init_230 : decode cX11_init 230 = .ok (.dup, 1) := by decide +kernel
theorem dX11_init_231 : decode cX11_init 231 = .ok (.aload_n 0, 1) := by decide +kernel
theorem dX11_init_232 : decode cX11_init 232 = .ok (.getfield 10, 3) := by decide +kernel
theorem dX11_init_235 : decode cX11_init 235 = .ok (.invokespecial 94, 3) := by decide +kernel
theorem dX11_init_238 : decode cX11_init 238 = .ok (.putfield 97, 3) := by decide +kernel
theorem dX11_init_241 : decode cX11_init 241 = .ok (.aload_n 0, 1) := by decide +kernel
theorem dX11_init_242 : decode cX11_init 242 = .ok (.new 92, 3) := by decide +kernel
theorem dX11_init_245 : decode cX11_init 245 = .ok (.dup, 1) := by decide +kernel
theorem dX11_init_246 : decode cX11_init 246 = .ok (.aload_n 0, 1) := by decide +kernel
theorem dX11_init_247 : decode cX11_init 247 = .ok (.getfield 16, 3) := by decide +kernel
theorem dX11_init_250 : decode cX11_init 250 = .ok (.invokespecial 94, 3) := by decide +kernel
theorem dX11_init_253 : decode cX11_init 253 = .ok (.putfield 101, 3) := by decide +kernel
theorem dX11_init_256 : decode cX11_init 256 = .ok (.return_, 1) := by decide +kernel
theorem ggX11_reader_X11_isReader : GoodIn wsX11_reader wsX11_isReader := gdC (gd1 m10_11)
theorem gX11_reader_X11_isReader : GoodIn wsX11_reader (va_wsS RX11 104 yX11_isReader wsX11_isReader) := gdC (gd3 m10_9 m10_10 m1_2 m10_11)
theorem ggX11_reader_X11_chosen : GoodIn wsX11_reader wsX11_chosen := gdC (gd1 m10_15)
theorem gX11_reader_X11_chosen : GoodIn wsX11_reader (wsV RX11 108 RX11 yX11_chosen wsX11_chosen) := gdC (gd4 m10_12 m10_13 m10_14 m1_2 m10_15)
theorem ggX11_reader_X5_become : GoodIn wsX11_reader wsX5_become := gdC (gd1 m10_19)
theorem gX11_reader_X5_become : GoodIn wsX11_reader (wsV RX11 112 RX5 yX5_become wsX5_become) := gdC (gd4 m10_16 m10_17 m10_18 m1_15 m10_19)
theorem dX11_reader_0 : decode cX11_reader 0 = .ok (.iload_n 1, 1) := by decide +kernel
theorem dX11_reader_1 : decode cX11_reader 1 = .ok (.invokestatic 104, 3) := by decide +kernel
theorem dX11_reader_4 : decode cX11_reader 4 = .ok (.ifCond .ne 6, 3) := by decide +kernel
theorem dX11_reader_7 : decode cX11_reader 7 = .ok (.bipush (-2), 2) := by decide +kernel
theorem dX11_reader_9 : decode cX11_reader 9 = .ok (.ireturn, 1) := by decide +kernel
theorem dX11_reader_10 : decode cX11_reader 10 = .ok (.iload_n 2, 1) := by decide +kernel
theorem dX11_reader_11 : decode cX11_reader 11 = .ok (.iconst 1, 1) := by decide +kernel
theorem dX11_reader_12 : decode cX11_reader 12 = .ok (.if_icmp .lt 18, 3) := by decide +kernel
theorem dX11_reader_15 : decode cX11_reader 15 = .ok (.iload_n 2, 1) := by decide +kernel
theorem dX11_reader_16 : decode cX11_reader 16 = .ok (.iconst 3, 1) := by decide +kernel
theorem dX11_reader_17 : decode cX11_reader 17 = .ok (.if_icmp .gt 13, 3) := by decide +kernel
theorem dX11_reader_20 : decode cX11_reader 20 = .ok (.iload_n 3, 1) := by decide +kernel
theorem dX11_reader_21 : decode cX11_reader 21 = .ok (.iconst 1, 1) := by decide +kernel
theorem dX11_reader_22 : decode cX11_reader 22 = .ok (.if_icmp .lt 8, 3) := by decide +kernel
theorem dX11_reader_25 : decode cX11_reader 25 = .ok (.iload_n 3, 1) := by decide +kernel
theorem dX11_reader_26 : decode cX11_reader 26 = .ok (.iconst 2, 1) := by decide +kernel
theorem dX11_reader_27 : decode cX11_reader 27 = .ok (.if_icmp .le 6, 3) := by decide +kernel
theorem dX11_reader_30 : decode cX11_reader 30 = .ok (.bipush (-3), 2) := by decide +kernel
theorem dX11_reader_32 : decode cX11_reader 32 = .ok (.ireturn, 1) := by decide +kernel
theorem dX11_reader_33 : decode cX11_reader 33 = .ok (.iload 4, 2) := by decide +kernel
theorem dX11_reader_35 : decode cX11_reader 35 = .ok (.ifCond .lt 11, 3) := by decide +kernel
theorem dX11_reader_38 : decode cX11_reader 38 = .ok (.iload 4, 2) := by decide +kernel
theorem dX11_reader_40 : decode cX11_reader 40 = .ok (.iconst 1, 1) := by decide +kernel
theorem dX11_reader_41 : decode cX11_reader 41 = .ok (.iload_n 2, 1) := by decide +kernel
theorem dX11_reader_42 : decode cX11_reader 42 = .ok (.ishl, 1) := by decide +kernel
theorem dX11_reader_43 : decode cX11_reader 43 = .ok (.if_icmp .lt 6, 3) := by decide +kernel
theorem dX11_reader_46 : decode cX11_reader 46 = .ok (.bipush (-3), 2) := by decide +kernel
theorem dX11_reader_48 : decode cX11_reader 48 = .ok (.ireturn, 1) := by decide +kernel
theorem dX11_reader_49 : decode cX11_reader 49 = .ok (.aload_n 0, 1) := by decide +kernel
theorem dX11_reader_50 : decode cX11_reader 50 = .ok (.iload_n 1, 1) := by decide +kernel
theorem dX11_reader_51 : decode cX11_reader 51 = .ok (.invokevirtual 108, 3) := by decide +kernel
theorem dX11_reader_54 : decode cX11_reader 54 = .ok (.iload_n 2, 1) := by decide +kernel
theorem dX11_reader_55 : decode cX11_reader 55 = .ok (.iload_n 3, 1) := by decide +kernel
theorem dX11_reader_56 : decode cX11_reader 56 = .ok (.iload 4, 2) := by decide +kernel
theorem dX11_reader_58 : decode cX11_reader 58 = .ok (.invokevirtual 112, 3) := by decide +kernel
theorem dX11_reader_61 : decode cX11_reader 61 = .ok (.iconst 1, 1) := by decide +kernel
theorem dX11_reader_62 : decode cX11_reader 62 = .ok (.ireturn, 1) := by decide +kernel
theorem ggX11_write_X8_size : GoodIn wsX11_write wsX8_size := gdC (gd1 m11_14)
theorem gX11_write_X8_size : GoodIn wsX11_write (wsV RX11 116 RX8 yX8_size wsX8_size) := gdC (gd4 m11_11 m11_12 m11_13 m1_20 m11_14)
theorem ggX11_write_X8_append : GoodIn wsX11_write wsX8_append := gdC (gd1 m11_18)
theorem gX11_write_X8_append : GoodIn wsX11_write (wsV RX11 122 RX8 yX8_append wsX8_append) := gdC (gd4 m11_15 m11_16 m11_17 m1_20 m11_18)
theorem dX11_write_0 : decode cX11_write 0 = .ok (.iload_n 3, 1) := by decide +kernel
theorem dX11_write_1 : decode cX11_write 1 = .ok (.iconst 1, 1) := by decide +kernel
theorem dX11_write_2 : decode cX11_write 2 = .ok (.if_icmp .lt 9, 3) := by decide +kernel
theorem dX11_write_5 : decode cX11_write 5 = .ok (.iload_n 3, 1) := by decide +kernel
theorem dX11_write_6 : decode cX11_write 6 = .ok (.bipush 8, 2) := by decide +kernel
theorem dX11_write_8 : decode cX11_write 8 = .ok (.if_icmp .le 6, 3) := by decide +kernel
theorem dX11_write_11 : decode cX11_write 11 = .ok (.bipush (-3), 2) := by decide +kernel
theorem dX11_write_13 : decode cX11_write 13 = .ok (.ireturn, 1) := by decide +kernel
theorem dX11_write_14 : decode cX11_write 14 = .ok (.aload_n 0, 1) := by decide +kernel
theorem dX11_write_15 : decode cX11_write 15 = .ok (.getfield 22, 3) := by decide +kernel
theorem dX11_write_18 : decode cX11_write 18 = .ok (.invokevirtual 116, 3) := by decide +kernel
theorem dX11_write_21 : decode cX11_write 21 = .ok (.iload_n 3, 1) := by decide +kernel
theorem dX11_write_22 : decode cX11_write 22 = .ok (.iadd, 1) := by decide +kernel
theorem dX11_write_23 : decode cX11_write 23 = .ok (.sipush 160, 3) := by decide +kernel
theorem dX11_write_26 : decode cX11_write 26 = .ok (.if_icmp .le 6, 3) := by decide +kernel
theorem dX11_write_29 : decode cX11_write 29 = .ok (.bipush (-5), 2) := by decide +kernel
theorem dX11_write_31 : decode cX11_write 31 = .ok (.ireturn, 1) := by decide +kernel
theorem dX11_write_32 : decode cX11_write 32 = .ok (.iconst 0, 1) := by decide +kernel
theorem dX11_write_33 : decode cX11_write 33 = .ok (.istore 4, 2) := by decide +kernel
theorem dX11_write_35 : decode cX11_write 35 = .ok (.iload 4, 2) := by decide +kernel
theorem dX11_write_37 : decode cX11_write 37 = .ok (.iload_n 3, 1) := by decide +kernel
theorem dX11_write_38 : decode cX11_write 38 = .ok (.if_icmp .ge 28, 3) := by decide +kernel
theorem dX11_write_41 : decode cX11_write 41 = .ok (.aload_n 0, 1) := by decide +kernel
theorem dX11_write_42 : decode cX11_write 42 = .ok (.getfield 22, 3) := by decide +kernel
theorem dX11_write_45 : decode cX11_write 45 = .ok (.lload_n 1, 1) := by decide +kernel
theorem dX11_write_46 : decode cX11_write 46 = .ok (.bipush 8, 2) := by decide +kernel
theorem dX11_write_48 : decode cX11_write 48 = .ok (.iload 4, 2) := by decide +kernel
theorem dX11_write_50 : decode cX11_write 50 = .ok (.imul, 1) := by decide +kernel
theorem dX11_write_51 : decode cX11_write 51 = .ok (.lshr, 1) := by decide +kernel
theorem dX11_write_52 : decode cX11_write 52 = .ok (.ldc2_w 120, 3) := by decide +kernel
theorem dX11_write_55 : decode cX11_write 55 = .ok (.land, 1) := by decide +kernel
theorem dX11_write_56 : decode cX11_write 56 = .ok (.l2i, 1) := by decide +kernel
theorem dX11_write_57 : decode cX11_write 57 = .ok (.invokevirtual 122, 3) := by decide +kernel
theorem dX11_write_60 : decode cX11_write 60 = .ok (.iinc 4 1, 3) := by decide +kernel
theorem dX11_write_63 : decode cX11_write 63 = .ok (.goto (-28), 3) := by decide +kernel
theorem dX11_write_66 : decode cX11_write 66 = .ok (.aload_n 0, 1) := by decide +kernel
theorem dX11_write_67 : decode cX11_write 67 = .ok (.getfield 22, 3) := by decide +kernel
theorem dX11_write_70 : decode cX11_write 70 = .ok (.invokevirtual 116, 3) := by decide +kernel
theorem dX11_write_73 : decode cX11_write 73 = .ok (.ireturn, 1) := by decide +kernel
theorem ggX11_erase_X8_size : GoodIn wsX11_erase wsX8_size := gdC (gd1 m11_14)
theorem gX11_erase_X8_size : GoodIn wsX11_erase (wsV RX11 116 RX8 yX8_size wsX8_size) := gdC (gd4 m11_11 m11_12 m11_13 m1_20 m11_14)
theorem ggX11_erase_X8_empty : GoodIn wsX11_erase wsX8_empty := gdC (gd1 m12_8)
theorem gX11_erase_X8_empty : GoodIn wsX11_erase (wsV RX11 126 RX8 yX8_empty wsX8_empty) := gdC (gd4 m12_5 m12_6 m12_7 m1_20 m12_8)
theorem dX11_erase_0 : decode cX11_erase 0 = .ok (.aload_n 0, 1) := by decide +kernel
theorem dX11_erase_1 : decode cX11_erase 1 = .ok (.getfield 22, 3) := by decide +kernel
theorem dX11_erase_4 : decode cX11_erase 4 = .ok (.invokevirtual 116, 3) := by decide +kernel
theorem dX11_erase_7 : decode cX11_erase 7 = .ok (.istore_n 1, 1) := by decide +kernel
theorem dX11_erase_8 : decode cX11_erase 8 = .ok (.aload_n 0, 1) := by decide +kernel
theorem dX11_erase_9 : decode cX11_erase 9 = .ok (.getfield 22, 3) := by decide +kernel
theorem dX11_erase_12 : decode cX11_erase 12 = .ok (.invokevirtual 126, 3) := by decide +kernel
theorem dX11_erase_15 : decode cX11_erase 15 = .ok (.iload_n 1, 1) := by decide +kernel
theorem dX11_erase_16 : decode cX11_erase 16 = .ok (.ireturn, 1) := by decide +kernel
theorem ggX11_fault_X11_isReader : GoodIn wsX11_fault wsX11_isReader := gdC (gd1 m10_11)
theorem gX11_fault_X11_isReader : GoodIn wsX11_fault (va_wsS RX11 104 yX11_isReader wsX11_isReader) := gdC (gd3 m10_9 m10_10 m1_2 m10_11)
theorem ggX11_fault_X11_chosen : GoodIn wsX11_fault wsX11_chosen := gdC (gd1 m10_15)
theorem gX11_fault_X11_chosen : GoodIn wsX11_fault (wsV RX11 108 RX11 yX11_chosen wsX11_chosen) := gdC (gd4 m10_12 m10_13 m10_14 m1_2 m10_15)
theorem ggX11_fault_X8_faultFor : GoodIn wsX11_fault wsX8_faultFor := gdC (gd1 m12_20)
theorem gX11_fault_X8_faultFor : GoodIn wsX11_fault (wsV RX11 129 RX8 yX8_faultFor wsX8_faultFor) := gdC (gd4 m12_17 m12_18 m12_19 m1_20 m12_20)
theorem dX11_fault_0 : decode cX11_fault 0 = .ok (.iload_n 1, 1) := by decide +kernel
theorem dX11_fault_1 : decode cX11_fault 1 = .ok (.invokestatic 104, 3) := by decide +kernel
theorem dX11_fault_4 : decode cX11_fault 4 = .ok (.ifCond .eq 19, 3) := by decide +kernel
theorem dX11_fault_7 : decode cX11_fault 7 = .ok (.aload_n 0, 1) := by decide +kernel
theorem dX11_fault_8 : decode cX11_fault 8 = .ok (.getfield 22, 3) := by decide +kernel
theorem dX11_fault_11 : decode cX11_fault 11 = .ok (.aload_n 0, 1) := by decide +kernel
theorem dX11_fault_12 : decode cX11_fault 12 = .ok (.iload_n 1, 1) := by decide +kernel
theorem dX11_fault_13 : decode cX11_fault 13 = .ok (.invokevirtual 108, 3) := by decide +kernel
theorem dX11_fault_16 : decode cX11_fault 16 = .ok (.iconst 0, 1) := by decide +kernel
theorem dX11_fault_17 : decode cX11_fault 17 = .ok (.invokevirtual 129, 3) := by decide +kernel
theorem dX11_fault_20 : decode cX11_fault 20 = .ok (.goto 5, 3) := by decide +kernel
theorem dX11_fault_23 : decode cX11_fault 23 = .ok (.bipush (-2), 2) := by decide +kernel
theorem dX11_fault_25 : decode cX11_fault 25 = .ok (.ireturn, 1) := by decide +kernel
theorem ggX11_moves_X11_isReader : GoodIn wsX11_moves wsX11_isReader := gdC (gd1 m10_11)
theorem gX11_moves_X11_isReader : GoodIn wsX11_moves (va_wsS RX11 104 yX11_isReader wsX11_isReader) := gdC (gd3 m10_9 m10_10 m1_2 m10_11)
theorem ggX11_moves_X11_chosen : GoodIn wsX11_moves wsX11_chosen := gdC (gd1 m10_15)
theorem gX11_moves_X11_chosen : GoodIn wsX11_moves (wsV RX11 108 RX11 yX11_chosen wsX11_chosen) := gdC (gd4 m10_12 m10_13 m10_14 m1_2 m10_15)
theorem ggX11_moves_X8_faultFor : GoodIn wsX11_moves wsX8_faultFor := gdC (gd1 m12_20)
theorem gX11_moves_X8_faultFor : GoodIn wsX11_moves (wsV RX11 129 RX8 yX8_faultFor wsX8_faultFor) := gdC (gd4 m12_17 m12_18 m12_19 m1_20 m12_20)
theorem ggX11_moves_X8_empty : GoodIn wsX11_moves wsX8_empty := gdC (gd1 m12_8)
theorem gX11_moves_X8_empty : GoodIn wsX11_moves (wsV RX11 126 RX8 yX8_empty wsX8_empty) := gdC (gd4 m12_5 m12_6 m12_7 m1_20 m12_8)
theorem ggX11_moves_X5_moveCount : GoodIn wsX11_moves wsX5_moveCount := gdC (gd1 m20_0)
theorem gX11_moves_X5_moveCount : GoodIn wsX11_moves (wsV RX11 133 RX5 yX5_moveCount wsX5_moveCount) := gdC (gd4 m19_21 m19_22 m19_23 m1_15 m20_0)
theorem dX11_moves_0 : decode cX11_moves 0 = .ok (.iload_n 1, 1) := by decide +kernel
theorem dX11_moves_1 : decode cX11_moves 1 = .ok (.invokestatic 104, 3) := by decide +kernel
theorem dX11_moves_4 : decode cX11_moves 4 = .ok (.ifCond .ne 6, 3) := by decide +kernel
theorem dX11_moves_7 : decode cX11_moves 7 = .ok (.bipush (-2), 2) := by decide +kernel
theorem dX11_moves_9 : decode cX11_moves 9 = .ok (.ireturn, 1) := by decide +kernel
theorem dX11_moves_10 : decode cX11_moves 10 = .ok (.aload_n 0, 1) := by decide +kernel
theorem dX11_moves_11 : decode cX11_moves 11 = .ok (.iload_n 1, 1) := by decide +kernel
theorem dX11_moves_12 : decode cX11_moves 12 = .ok (.invokevirtual 108, 3) := by decide +kernel
theorem dX11_moves_15 : decode cX11_moves 15 = .ok (.astore_n 2, 1) := by decide +kernel
theorem dX11_moves_16 : decode cX11_moves 16 = .ok (.aload_n 0, 1) := by decide +kernel
theorem dX11_moves_17 : decode cX11_moves 17 = .ok (.getfield 22, 3) := by decide +kernel
theorem dX11_moves_20 : decode cX11_moves 20 = .ok (.aload_n 2, 1) := by decide +kernel
theorem dX11_moves_21 : decode cX11_moves 21 = .ok (.iconst 0, 1) := by decide +kernel
theorem dX11_moves_22 : decode cX11_moves 22 = .ok (.invokevirtual 129, 3) := by decide +kernel
theorem dX11_moves_25 : decode cX11_moves 25 = .ok (.iconst (-1), 1) := by decide +kernel
theorem dX11_moves_26 : decode cX11_moves 26 = .ok (.if_icmp .eq 6, 3) := by decide +kernel
theorem dX11_moves_29 : decode cX11_moves 29 = .ok (.bipush (-4), 2) := by decide +kernel
theorem dX11_moves_31 : decode cX11_moves 31 = .ok (.ireturn, 1) := by decide +kernel
theorem dX11_moves_32 : decode cX11_moves 32 = .ok (.aload_n 0, 1) := by decide +kernel
theorem dX11_moves_33 : decode cX11_moves 33 = .ok (.getfield 22, 3) := by decide +kernel
theorem dX11_moves_36 : decode cX11_moves 36 = .ok (.aload_n 2, 1) := by decide +kernel
theorem dX11_moves_37 : decode cX11_moves 37 = .ok (.iconst 1, 1) := by decide +kernel
theorem dX11_moves_38 : decode cX11_moves 38 = .ok (.invokevirtual 129, 3) := by decide +kernel
theorem dX11_moves_41 : decode cX11_moves 41 = .ok (.pop, 1) := by decide +kernel
theorem dX11_moves_42 : decode cX11_moves 42 = .ok (.aload_n 0, 1) := by decide +kernel
theorem dX11_moves_43 : decode cX11_moves 43 = .ok (.getfield 22, 3) := by decide +kernel
theorem dX11_moves_46 : decode cX11_moves 46 = .ok (.invokevirtual 126, 3) := by decide +kernel
theorem dX11_moves_49 : decode cX11_moves 49 = .ok (.aload_n 2, 1) := by decide +kernel
theorem dX11_moves_50 : decode cX11_moves 50 = .ok (.invokevirtual 133, 3) := by decide +kernel
theorem dX11_moves_53 : decode cX11_moves 53 = .ok (.ireturn, 1) := by decide +kernel
theorem ggX11_has_X11_isReader : GoodIn wsX11_has wsX11_isReader := gdC (gd1 m10_11)
theorem gX11_has_X11_isReader : GoodIn wsX11_has (va_wsS RX11 104 yX11_isReader wsX11_isReader) := gdC (gd3 m10_9 m10_10 m1_2 m10_11)
theorem ggX11_has_X11_chosen : GoodIn wsX11_has wsX11_chosen := gdC (gd1 m10_15)
theorem gX11_has_X11_chosen : GoodIn wsX11_has (wsV RX11 108 RX11 yX11_chosen wsX11_chosen) := gdC (gd4 m10_12 m10_13 m10_14 m1_2 m10_15)
theorem ggX11_has_X5_knows : GoodIn wsX11_has wsX5_knows := gdC (gd1 m17_6)
theorem gX11_has_X5_knows : GoodIn wsX11_has (wsV RX11 136 RX5 yX5_knows wsX5_knows) := gdC (gd4 m21_16 m17_4 m17_5 m1_15 m17_6)
theorem ggX11_has_X5_holds : GoodIn wsX11_has wsX5_holds := gdC (gd1 m21_20)
theorem gX11_has_X5_holds : GoodIn wsX11_has (wsV RX11 140 RX5 yX5_holds wsX5_holds) := gdC (gd4 m21_17 m21_18 m21_19 m1_15 m21_20)
theorem dX11_has_0 : decode cX11_has 0 = .ok (.iload_n 1, 1) := by decide +kernel
theorem dX11_has_1 : decode cX11_has 1 = .ok (.invokestatic 104, 3) := by decide +kernel
theorem dX11_has_4 : decode cX11_has 4 = .ok (.ifCond .eq 20, 3) := by decide +kernel
theorem dX11_has_7 : decode cX11_has 7 = .ok (.aload_n 0, 1) := by decide +kernel
theorem dX11_has_8 : decode cX11_has 8 = .ok (.iload_n 1, 1) := by decide +kernel
theorem dX11_has_9 : decode cX11_has 9 = .ok (.invokevirtual 108, 3) := by decide +kernel
theorem dX11_has_12 : decode cX11_has 12 = .ok (.iload_n 2, 1) := by decide +kernel
theorem dX11_has_13 : decode cX11_has 13 = .ok (.iload_n 3, 1) := by decide +kernel
theorem dX11_has_14 : decode cX11_has 14 = .ok (.iload 4, 2) := by decide +kernel
theorem dX11_has_16 : decode cX11_has 16 = .ok (.iload 5, 2) := by decide +kernel
theorem dX11_has_18 : decode cX11_has 18 = .ok (.invokevirtual 136, 3) := by decide +kernel
theorem dX11_has_21 : decode cX11_has 21 = .ok (.ifCond .ne 6, 3) := by decide +kernel
theorem dX11_has_24 : decode cX11_has 24 = .ok (.bipush (-2), 2) := by decide +kernel
theorem dX11_has_26 : decode cX11_has 26 = .ok (.ireturn, 1) := by decide +kernel
theorem dX11_has_27 : decode cX11_has 27 = .ok (.aload_n 0, 1) := by decide +kernel
theorem dX11_has_28 : decode cX11_has 28 = .ok (.iload_n 1, 1) := by decide +kernel
theorem dX11_has_29 : decode cX11_has 29 = .ok (.invokevirtual 108, 3) := by decide +kernel
theorem dX11_has_32 : decode cX11_has 32 = .ok (.iload_n 2, 1) := by decide +kernel
theorem dX11_has_33 : decode cX11_has 33 = .ok (.iload_n 3, 1) := by decide +kernel
theorem dX11_has_34 : decode cX11_has 34 = .ok (.iload 4, 2) := by decide +kernel
theorem dX11_has_36 : decode cX11_has 36 = .ok (.iload 5, 2) := by decide +kernel
theorem dX11_has_38 : decode cX11_has 38 = .ok (.invokevirtual 140, 3) := by decide +kernel
theorem dX11_has_41 : decode cX11_has 41 = .ok (.ifCond .eq 7, 3) := by decide +kernel
theorem dX11_has_44 : decode cX11_has 44 = .ok (.iconst 1, 1) := by decide +kernel
theorem dX11_has_45 : decode cX11_has 45 = .ok (.goto 4, 3) := by decide +kernel
theorem dX11_has_48 : decode cX11_has 48 = .ok (.iconst 0, 1) := by decide +kernel
theorem dX11_has_49 : decode cX11_has 49 = .ok (.ireturn, 1) := by decide +kernel
theorem ggX11_drop_X11_has : GoodIn wsX11_drop wsX11_has := gdC (gd1 m21_15)
theorem gX11_drop_X11_has : GoodIn wsX11_drop (wsV RX11 143 RX11 yX11_has wsX11_has) := gdC (gd4 m22_13 m21_13 m21_14 m1_2 m21_15)
theorem ggX11_drop_X11_chosen : GoodIn wsX11_drop wsX11_chosen := gdC (gd1 m10_15)
theorem gX11_drop_X11_chosen : GoodIn wsX11_drop (wsV RX11 108 RX11 yX11_chosen wsX11_chosen) := gdC (gd4 m10_12 m10_13 m10_14 m1_2 m10_15)
theorem ggX11_drop_X5_remove : GoodIn wsX11_drop wsX5_remove := gdC (gd1 m22_17)
theorem gX11_drop_X5_remove : GoodIn wsX11_drop (wsV RX11 147 RX5 yX5_remove wsX5_remove) := gdC (gd4 m22_14 m22_15 m22_16 m1_15 m22_17)
theorem ggX11_drop_X5_moveCount : GoodIn wsX11_drop wsX5_moveCount := gdC (gd1 m20_0)
theorem gX11_drop_X5_moveCount : GoodIn wsX11_drop (wsV RX11 133 RX5 yX5_moveCount wsX5_moveCount) := gdC (gd4 m19_21 m19_22 m19_23 m1_15 m20_0)
theorem dX11_drop_0 : decode cX11_drop 0 = .ok (.aload_n 0, 1) := by decide +kernel
theorem dX11_drop_1 : decode cX11_drop 1 = .ok (.iload_n 1, 1) := by decide +kernel
theorem dX11_drop_2 : decode cX11_drop 2 = .ok (.iload_n 2, 1) := by decide +kernel
theorem dX11_drop_3 : decode cX11_drop 3 = .ok (.iload_n 3, 1) := by decide +kernel
theorem dX11_drop_4 : decode cX11_drop 4 = .ok (.iload 4, 2) := by decide +kernel
theorem dX11_drop_6 : decode cX11_drop 6 = .ok (.iload 5, 2) := by decide +kernel
theorem dX11_drop_8 : decode cX11_drop 8 = .ok (.invokevirtual 143, 3) := by decide +kernel
theorem dX11_drop_11 : decode cX11_drop 11 = .ok (.iconst 1, 1) := by decide +kernel
theorem dX11_drop_12 : decode cX11_drop 12 = .ok (.if_icmp .eq 6, 3) := by decide +kernel
theorem dX11_drop_15 : decode cX11_drop 15 = .ok (.bipush (-2), 2) := by decide +kernel
theorem dX11_drop_17 : decode cX11_drop 17 = .ok (.ireturn, 1) := by decide +kernel
theorem dX11_drop_18 : decode cX11_drop 18 = .ok (.aload_n 0, 1) := by decide +kernel
theorem dX11_drop_19 : decode cX11_drop 19 = .ok (.iload_n 1, 1) := by decide +kernel
theorem dX11_drop_20 : decode cX11_drop 20 = .ok (.invokevirtual 108, 3) := by decide +kernel
theorem dX11_drop_23 : decode cX11_drop 23 = .ok (.iload_n 2, 1) := by decide +kernel
theorem dX11_drop_24 : decode cX11_drop 24 = .ok (.iload_n 3, 1) := by decide +kernel
theorem dX11_drop_25 : decode cX11_drop 25 = .ok (.iload 4, 2) := by decide +kernel
theorem dX11_drop_27 : decode cX11_drop 27 = .ok (.iload 5, 2) := by decide +kernel
theorem dX11_drop_29 : decode cX11_drop 29 = .ok (.invokevirtual 147, 3) := by decide +kernel
theorem dX11_drop_32 : decode cX11_drop 32 = .ok (.aload_n 0, 1) := by decide +kernel
theorem dX11_drop_33 : decode cX11_drop 33 = .ok (.iload_n 1, 1) := by decide +kernel
theorem dX11_drop_34 : decode cX11_drop 34 = .ok (.invokevirtual 108, 3) := by decide +kernel
theorem dX11_drop_37 : decode cX11_drop 37 = .ok (.invokevirtual 133, 3) := by decide +kernel
theorem dX11_drop_40 : decode cX11_drop 40 = .ok (.ireturn, 1) := by decide +kernel
theorem ggX11_letter_X6_size : GoodIn wsX11_letter wsX6_size := gdC (gd1 m23_5)
theorem gX11_letter_X6_size : GoodIn wsX11_letter (wsV RX11 151 RX6 yX6_size wsX6_size) := gdC (gd4 m23_2 m23_3 m23_4 m2_0 m23_5)
theorem ggX11_letter_X6_append : GoodIn wsX11_letter wsX6_append := gdC (gd1 m23_9)
theorem gX11_letter_X6_append : GoodIn wsX11_letter (wsV RX11 152 RX6 yX6_append wsX6_append) := gdC (gd4 m23_6 m23_7 m23_8 m2_0 m23_9)
theorem dX11_letter_0 : decode cX11_letter 0 = .ok (.iload_n 1, 1) := by decide +kernel
theorem dX11_letter_1 : decode cX11_letter 1 = .ok (.ifCond .lt 9, 3) := by decide +kernel
theorem dX11_letter_4 : decode cX11_letter 4 = .ok (.iload_n 1, 1) := by decide +kernel
theorem dX11_letter_5 : decode cX11_letter 5 = .ok (.bipush 6, 2) := by decide +kernel
theorem dX11_letter_7 : decode cX11_letter 7 = .ok (.if_icmp .lt 6, 3) := by decide +kernel
theorem dX11_letter_10 : decode cX11_letter 10 = .ok (.bipush (-2), 2) := by decide +kernel
theorem dX11_letter_12 : decode cX11_letter 12 = .ok (.ireturn, 1) := by decide +kernel
theorem dX11_letter_13 : decode cX11_letter 13 = .ok (.aload_n 0, 1) := by decide +kernel
theorem dX11_letter_14 : decode cX11_letter 14 = .ok (.getfield 29, 3) := by decide +kernel
theorem dX11_letter_17 : decode cX11_letter 17 = .ok (.invokevirtual 151, 3) := by decide +kernel
theorem dX11_letter_20 : decode cX11_letter 20 = .ok (.bipush 24, 2) := by decide +kernel
theorem dX11_letter_22 : decode cX11_letter 22 = .ok (.if_icmp .lt 6, 3) := by decide +kernel
theorem dX11_letter_25 : decode cX11_letter 25 = .ok (.bipush (-5), 2) := by decide +kernel
theorem dX11_letter_27 : decode cX11_letter 27 = .ok (.ireturn, 1) := by decide +kernel
theorem dX11_letter_28 : decode cX11_letter 28 = .ok (.aload_n 0, 1) := by decide +kernel
theorem dX11_letter_29 : decode cX11_letter 29 = .ok (.getfield 29, 3) := by decide +kernel
theorem dX11_letter_32 : decode cX11_letter 32 = .ok (.iload_n 1, 1) := by decide +kernel
theorem dX11_letter_33 : decode cX11_letter 33 = .ok (.invokevirtual 152, 3) := by decide +kernel
theorem dX11_letter_36 : decode cX11_letter 36 = .ok (.aload_n 0, 1) := by decide +kernel
theorem dX11_letter_37 : decode cX11_letter 37 = .ok (.getfield 29, 3) := by decide +kernel
theorem dX11_letter_40 : decode cX11_letter 40 = .ok (.invokevirtual 151, 3) := by decide +kernel
theorem dX11_letter_43 : decode cX11_letter 43 = .ok (.ireturn, 1) := by decide +kernel
theorem ggX11_row_X11_letterOf : GoodIn wsX11_row wsX11_letterOf := gdC (gd1 m24_12)
theorem gX11_row_X11_letterOf : GoodIn wsX11_row (va_wsS RX11 153 yX11_letterOf wsX11_letterOf) := gdC (gd3 m24_10 m24_11 m1_2 m24_12)
theorem ggX11_row_X6_cut : GoodIn wsX11_row wsX6_cut := gdC (gd1 m24_17)
theorem gX11_row_X6_cut : GoodIn wsX11_row (wsV RX11 157 RX6 yX6_cut wsX6_cut) := gdC (gd4 m24_14 m24_15 m24_16 m2_0 m24_17)
theorem ggX11_row_X6_append : GoodIn wsX11_row wsX6_append := gdC (gd1 m23_9)
theorem gX11_row_X6_append : GoodIn wsX11_row (wsV RX11 152 RX6 yX6_append wsX6_append) := gdC (gd4 m23_6 m23_7 m23_8 m2_0 m23_9)
theorem dX11_row_0 : decode cX11_row 0 = .ok (.iload_n 3, 1) := by decide +kernel
theorem dX11_row_1 : decode cX11_row 1 = .ok (.ifCond .lt 9, 3) := by decide +kernel
theorem dX11_row_4 : decode cX11_row 4 = .ok (.iload_n 3, 1) := by decide +kernel
theorem dX11_row_5 : decode cX11_row 5 = .ok (.bipush 20, 2) := by decide +kernel
theorem dX11_row_7 : decode cX11_row 7 = .ok (.if_icmp .le 6, 3) := by decide +kernel
theorem dX11_row_10 : decode cX11_row 10 = .ok (.bipush (-3), 2) := by decide +kernel
theorem dX11_row_12 : decode cX11_row 12 = .ok (.ireturn, 1) := by decide +kernel
theorem dX11_row_13 : decode cX11_row 13 = .ok (.iconst 0, 1) := by decide +kernel
theorem dX11_row_14 : decode cX11_row 14 = .ok (.istore 4, 2) := by decide +kernel
theorem dX11_row_16 : decode cX11_row 16 = .ok (.iload 4, 2) := by decide +kernel
theorem dX11_row_18 : decode cX11_row 18 = .ok (.iload_n 3, 1) := by decide +kernel
theorem dX11_row_19 : decode cX11_row 19 = .ok (.if_icmp .ge 23, 3) := by decide +kernel
theorem dX11_row_22 : decode cX11_row 22 = .ok (.lload_n 1, 1) := by decide +kernel
theorem dX11_row_23 : decode cX11_row 23 = .ok (.iload 4, 2) := by decide +kernel
theorem dX11_row_25 : decode cX11_row 25 = .ok (.invokestatic 153, 3) := by decide +kernel
theorem dX11_row_28 : decode cX11_row 28 = .ok (.bipush 6, 2) := by decide +kernel
theorem dX11_row_30 : decode cX11_row 30 = .ok (.if_icmp .lt 6, 3) := by decide +kernel
theorem dX11_row_33 : decode cX11_row 33 = .ok (.bipush (-2), 2) := by decide +kernel
theorem dX11_row_35 : decode cX11_row 35 = .ok (.ireturn, 1) := by decide +kernel
theorem dX11_row_36 : decode cX11_row 36 = .ok (.iinc 4 1, 3) := by decide +kernel
theorem dX11_row_39 : decode cX11_row 39 = .ok (.goto (-23), 3) := by decide +kernel
theorem dX11_row_42 : decode cX11_row 42 = .ok (.aload_n 0, 1) := by decide +kernel
theorem dX11_row_43 : decode cX11_row 43 = .ok (.getfield 29, 3) := by decide +kernel
theorem dX11_row_46 : decode cX11_row 46 = .ok (.iconst 0, 1) := by decide +kernel
theorem dX11_row_47 : decode cX11_row 47 = .ok (.invokevirtual 157, 3) := by decide +kernel
theorem dX11_row_50 : decode cX11_row 50 = .ok (.iconst 0, 1) := by decide +kernel
theorem dX11_row_51 : decode cX11_row 51 = .ok (.istore 4, 2) := by decide +kernel
theorem dX11_row_53 : decode cX11_row 53 = .ok (.iload 4, 2) := by decide +kernel
theorem dX11_row_55 : decode cX11_row 55 = .ok (.iload_n 3, 1) := by decide +kernel
theorem dX11_row_56 : decode cX11_row 56 = .ok (.if_icmp .ge 22, 3) := by decide +kernel
theorem dX11_row_59 : decode cX11_row 59 = .ok (.aload_n 0, 1) := by decide +kernel
theorem dX11_row_60 : decode cX11_row 60 = .ok (.getfield 29, 3) := by decide +kernel
theorem dX11_row_63 : decode cX11_row 63 = .ok (.lload_n 1, 1) := by decide +kernel
theorem dX11_row_64 : decode cX11_row 64 = .ok (.iload 4, 2) := by decide +kernel
theorem dX11_row_66 : decode cX11_row 66 = .ok (.invokestatic 153, 3) := by decide +kernel
theorem dX11_row_69 : decode cX11_row 69 = .ok (.invokevirtual 152, 3) := by decide +kernel
theorem dX11_row_72 : decode cX11_row 72 = .ok (.iinc 4 1, 3) := by decide +kernel
theorem dX11_row_75 : decode cX11_row 75 = .ok (.goto (-22), 3) := by decide +kernel
theorem dX11_row_78 : decode cX11_row 78 = .ok (.iconst 1, 1) := by decide +kernel
theorem dX11_row_79 : decode cX11_row 79 = .ok (.ireturn, 1) := by decide +kernel
theorem ggX11_partner_X6_size : GoodIn wsX11_partner wsX6_size := gdC (gd1 m23_5)
theorem gX11_partner_X6_size : GoodIn wsX11_partner (wsV RX11 151 RX6 yX6_size wsX6_size) := gdC (gd4 m23_2 m23_3 m23_4 m2_0 m23_5)
theorem ggX11_partner_X6_partnerOf : GoodIn wsX11_partner wsX6_partnerOf := gdC (gd1 m25_7)
theorem gX11_partner_X6_partnerOf : GoodIn wsX11_partner (wsV RX11 160 RX6 yX6_partnerOf wsX6_partnerOf) := gdC (gd4 m25_4 m25_5 m25_6 m2_0 m25_7)
theorem dX11_partner_0 : decode cX11_partner 0 = .ok (.iload_n 1, 1) := by decide +kernel
theorem dX11_partner_1 : decode cX11_partner 1 = .ok (.ifCond .lt 14, 3) := by decide +kernel
theorem dX11_partner_4 : decode cX11_partner 4 = .ok (.iload_n 1, 1) := by decide +kernel
theorem dX11_partner_5 : decode cX11_partner 5 = .ok (.aload_n 0, 1) := by decide +kernel
theorem dX11_partner_6 : decode cX11_partner 6 = .ok (.getfield 29, 3) := by decide +kernel
theorem dX11_partner_9 : decode cX11_partner 9 = .ok (.invokevirtual 151, 3) := by decide +kernel
theorem dX11_partner_12 : decode cX11_partner 12 = .ok (.if_icmp .lt 8, 3) := by decide +kernel
theorem dX11_partner_15 : decode cX11_partner 15 = .ok (.bipush (-3), 2) := by decide +kernel
theorem dX11_partner_17 : decode cX11_partner 17 = .ok (.goto 11, 3) := by decide +kernel
theorem dX11_partner_20 : decode cX11_partner 20 = .ok (.aload_n 0, 1) := by decide +kernel
theorem dX11_partner_21 : decode cX11_partner 21 = .ok (.getfield 29, 3) := by decide +kernel
theorem dX11_partner_24 : decode cX11_partner 24 = .ok (.iload_n 1, 1) := by decide +kernel
theorem dX11_partner_25 : decode cX11_partner 25 = .ok (.invokevirtual 160, 3) := by decide +kernel
theorem dX11_partner_28 : decode cX11_partner 28 = .ok (.ireturn, 1) := by decide +kernel
theorem ggX11_depth_X11_isBehind : GoodIn wsX11_depth wsX11_isBehind := gdC (gd1 m25_23)
theorem gX11_depth_X11_isBehind : GoodIn wsX11_depth (wsV RX11 164 RX11 yX11_isBehind wsX11_isBehind) := gdC (gd4 m25_20 m25_21 m25_22 m1_2 m25_23)
theorem ggX11_depth_X6_depthBehind : GoodIn wsX11_depth wsX6_depthBehind := gdC (gd1 m26_3)
theorem gX11_depth_X6_depthBehind : GoodIn wsX11_depth (wsV RX11 167 RX6 yX6_depthBehind wsX6_depthBehind) := gdC (gd4 m26_0 m26_1 m26_2 m2_0 m26_3)
theorem dX11_depth_0 : decode cX11_depth 0 = .ok (.aload_n 0, 1) := by decide +kernel
theorem dX11_depth_1 : decode cX11_depth 1 = .ok (.iload_n 1, 1) := by decide +kernel
theorem dX11_depth_2 : decode cX11_depth 2 = .ok (.invokevirtual 164, 3) := by decide +kernel
theorem dX11_depth_5 : decode cX11_depth 5 = .ok (.ifCond .eq 14, 3) := by decide +kernel
theorem dX11_depth_8 : decode cX11_depth 8 = .ok (.aload_n 0, 1) := by decide +kernel
theorem dX11_depth_9 : decode cX11_depth 9 = .ok (.getfield 29, 3) := by decide +kernel
theorem dX11_depth_12 : decode cX11_depth 12 = .ok (.iload_n 1, 1) := by decide +kernel
theorem dX11_depth_13 : decode cX11_depth 13 = .ok (.invokevirtual 167, 3) := by decide +kernel
theorem dX11_depth_16 : decode cX11_depth 16 = .ok (.goto 5, 3) := by decide +kernel
theorem dX11_depth_19 : decode cX11_depth 19 = .ok (.bipush (-3), 2) := by decide +kernel
theorem dX11_depth_21 : decode cX11_depth 21 = .ok (.ireturn, 1) := by decide +kernel
theorem ggX11_run_X11_isReader : GoodIn wsX11_run wsX11_isReader := gdC (gd1 m10_11)
theorem gX11_run_X11_isReader : GoodIn wsX11_run (va_wsS RX11 104 yX11_isReader wsX11_isReader) := gdC (gd3 m10_9 m10_10 m1_2 m10_11)
theorem ggX11_run_X11_isBehind : GoodIn wsX11_run wsX11_isBehind := gdC (gd1 m25_23)
theorem gX11_run_X11_isBehind : GoodIn wsX11_run (wsV RX11 164 RX11 yX11_isBehind wsX11_isBehind) := gdC (gd4 m25_20 m25_21 m25_22 m1_2 m25_23)
theorem ggX11_run_X11_chosen : GoodIn wsX11_run wsX11_chosen := gdC (gd1 m10_15)
theorem gX11_run_X11_chosen : GoodIn wsX11_run (wsV RX11 108 RX11 yX11_chosen wsX11_chosen) := gdC (gd4 m10_12 m10_13 m10_14 m1_2 m10_15)
theorem ggX11_run_X7_runs : GoodIn wsX11_run wsX7_runs := gdC (gd1 m26_15)
theorem gX11_run_X7_runs : GoodIn wsX11_run (wsV RX11 170 RX7 yX7_runs wsX7_runs) := gdC (gd4 m26_12 m26_13 m26_14 m2_8 m26_15)
theorem ggX11_run_X9_follow : GoodIn wsX11_run wsX9_follow := gdC (gd1 m28_4)
theorem gX11_run_X9_follow : GoodIn wsX11_run (wsV RX11 174 RX9 yX9_follow wsX9_follow) := gdC (gd4 m28_1 m28_2 m28_3 m2_4 m28_4)
theorem ggX11_run_X9_comeAt : GoodIn wsX11_run wsX9_comeAt := gdC (gd1 m29_21)
theorem gX11_run_X9_comeAt : GoodIn wsX11_run (wsV RX11 178 RX9 yX9_comeAt wsX9_comeAt) := gdC (gd4 m29_18 m29_19 m29_20 m2_4 m29_21)
theorem ggX11_run_X5_takesAny : GoodIn wsX11_run wsX5_takesAny := gdC (gd1 m30_1)
theorem gX11_run_X5_takesAny : GoodIn wsX11_run (wsV RX11 181 RX5 yX5_takesAny wsX5_takesAny) := gdC (gd4 m29_22 m29_23 m30_0 m1_15 m30_1)
theorem dX11_run_0 : decode cX11_run 0 = .ok (.iload_n 1, 1) := by decide +kernel
theorem dX11_run_1 : decode cX11_run 1 = .ok (.invokestatic 104, 3) := by decide +kernel
theorem dX11_run_4 : decode cX11_run 4 = .ok (.ifCond .ne 6, 3) := by decide +kernel
theorem dX11_run_7 : decode cX11_run 7 = .ok (.bipush (-2), 2) := by decide +kernel
theorem dX11_run_9 : decode cX11_run 9 = .ok (.ireturn, 1) := by decide +kernel
theorem dX11_run_10 : decode cX11_run 10 = .ok (.aload_n 0, 1) := by decide +kernel
theorem dX11_run_11 : decode cX11_run 11 = .ok (.iload_n 2, 1) := by decide +kernel
theorem dX11_run_12 : decode cX11_run 12 = .ok (.invokevirtual 164, 3) := by decide +kernel
theorem dX11_run_15 : decode cX11_run 15 = .ok (.ifCond .eq 12, 3) := by decide +kernel
theorem dX11_run_18 : decode cX11_run 18 = .ok (.iload_n 3, 1) := by decide +kernel
theorem dX11_run_19 : decode cX11_run 19 = .ok (.ifCond .lt 8, 3) := by decide +kernel
theorem dX11_run_22 : decode cX11_run 22 = .ok (.iload_n 3, 1) := by decide +kernel
theorem dX11_run_23 : decode cX11_run 23 = .ok (.iconst 2, 1) := by decide +kernel
theorem dX11_run_24 : decode cX11_run 24 = .ok (.if_icmp .le 6, 3) := by decide +kernel
theorem dX11_run_27 : decode cX11_run 27 = .ok (.bipush (-3), 2) := by decide +kernel
theorem dX11_run_29 : decode cX11_run 29 = .ok (.ireturn, 1) := by decide +kernel
theorem dX11_run_30 : decode cX11_run 30 = .ok (.iload_n 3, 1) := by decide +kernel
theorem dX11_run_31 : decode cX11_run 31 = .ok (.iconst 2, 1) := by decide +kernel
theorem dX11_run_32 : decode cX11_run 32 = .ok (.if_icmp .ne 21, 3) := by decide +kernel
theorem dX11_run_35 : decode cX11_run 35 = .ok (.aload_n 0, 1) := by decide +kernel
theorem dX11_run_36 : decode cX11_run 36 = .ok (.getfield 43, 3) := by decide +kernel
theorem dX11_run_39 : decode cX11_run 39 = .ok (.aload_n 0, 1) := by decide +kernel
theorem dX11_run_40 : decode cX11_run 40 = .ok (.iload_n 1, 1) := by decide +kernel
theorem dX11_run_41 : decode cX11_run 41 = .ok (.invokevirtual 108, 3) := by decide +kernel
theorem dX11_run_44 : decode cX11_run 44 = .ok (.aload_n 0, 1) := by decide +kernel
theorem dX11_run_45 : decode cX11_run 45 = .ok (.getfield 29, 3) := by decide +kernel
theorem dX11_run_48 : decode cX11_run 48 = .ok (.iload_n 2, 1) := by decide +kernel
theorem dX11_run_49 : decode cX11_run 49 = .ok (.invokevirtual 170, 3) := by decide +kernel
theorem dX11_run_52 : decode cX11_run 52 = .ok (.ireturn, 1) := by decide +kernel
theorem dX11_run_53 : decode cX11_run 53 = .ok (.aload_n 0, 1) := by decide +kernel
theorem dX11_run_54 : decode cX11_run 54 = .ok (.getfield 36, 3) := by decide +kernel
theorem dX11_run_57 : decode cX11_run 57 = .ok (.aload_n 0, 1) := by decide +kernel
theorem dX11_run_58 : decode cX11_run 58 = .ok (.iload_n 1, 1) := by decide +kernel
theorem dX11_run_59 : decode cX11_run 59 = .ok (.invokevirtual 108, 3) := by decide +kernel
theorem dX11_run_62 : decode cX11_run 62 = .ok (.aload_n 0, 1) := by decide +kernel
theorem dX11_run_63 : decode cX11_run 63 = .ok (.getfield 29, 3) := by decide +kernel
theorem dX11_run_66 : decode cX11_run 66 = .ok (.iload_n 2, 1) := by decide +kernel
theorem dX11_run_67 : decode cX11_run 67 = .ok (.invokevirtual 174, 3) := by decide +kernel
theorem dX11_run_70 : decode cX11_run 70 = .ok (.aload_n 0, 1) := by decide +kernel
theorem dX11_run_71 : decode cX11_run 71 = .ok (.getfield 36, 3) := by decide +kernel
theorem dX11_run_74 : decode cX11_run 74 = .ok (.iload_n 2, 1) := by decide +kernel
theorem dX11_run_75 : decode cX11_run 75 = .ok (.invokevirtual 178, 3) := by decide +kernel
theorem dX11_run_78 : decode cX11_run 78 = .ok (.istore 4, 2) := by decide +kernel
theorem dX11_run_80 : decode cX11_run 80 = .ok (.iload_n 3, 1) := by decide +kernel
theorem dX11_run_81 : decode cX11_run 81 = .ok (.ifCond .ne 6, 3) := by decide +kernel
theorem dX11_run_84 : decode cX11_run 84 = .ok (.iload 4, 2) := by decide +kernel
theorem dX11_run_86 : decode cX11_run 86 = .ok (.ireturn, 1) := by decide +kernel
theorem dX11_run_87 : decode cX11_run 87 = .ok (.aload_n 0, 1) := by decide +kernel
theorem dX11_run_88 : decode cX11_run 88 = .ok (.iload_n 1, 1) := by decide +kernel
theorem dX11_run_89 : decode cX11_run 89 = .ok (.invokevirtual 108, 3) := by decide +kernel
theorem dX11_run_92 : decode cX11_run 92 = .ok (.iload 4, 2) := by decide +kernel
theorem dX11_run_94 : decode cX11_run 94 = .ok (.invokevirtual 181, 3) := by decide +kernel
theorem dX11_run_97 : decode cX11_run 97 = .ok (.ifCond .eq 7, 3) := by decide +kernel
theorem dX11_run_100 : decode cX11_run 100 = .ok (.iconst 1, 1) := by decide +kernel
theorem dX11_run_101 : decode cX11_run 101 = .ok (.goto 4, 3) := by decide +kernel
theorem dX11_run_104 : decode cX11_run 104 = .ok (.iconst 0, 1) := by decide +kernel
theorem dX11_run_105 : decode cX11_run 105 = .ok (.ireturn, 1) := by decide +kernel
theorem ggX11_between_X11_isReader : GoodIn wsX11_between wsX11_isReader := gdC (gd1 m10_11)
theorem gX11_between_X11_isReader : GoodIn wsX11_between (va_wsS RX11 104 yX11_isReader wsX11_isReader) := gdC (gd3 m10_9 m10_10 m1_2 m10_11)
theorem ggX11_between_X6_isWhole : GoodIn wsX11_between wsX6_isWhole := gdC (gd1 m33_17)
theorem gX11_between_X6_isWhole : GoodIn wsX11_between (wsV RX11 184 RX6 yX6_isWhole wsX6_isWhole) := gdC (gd4 m33_14 m33_15 m33_16 m2_0 m33_17)
theorem ggX11_between_X11_chosen : GoodIn wsX11_between wsX11_chosen := gdC (gd1 m10_15)
theorem gX11_between_X11_chosen : GoodIn wsX11_between (wsV RX11 108 RX11 yX11_chosen wsX11_chosen) := gdC (gd4 m10_12 m10_13 m10_14 m1_2 m10_15)
theorem ggX11_between_X6_size : GoodIn wsX11_between wsX6_size := gdC (gd1 m23_5)
theorem gX11_between_X6_size : GoodIn wsX11_between (wsV RX11 151 RX6 yX6_size wsX6_size) := gdC (gd4 m23_2 m23_3 m23_4 m2_0 m23_5)
theorem ggX11_between_X9_follow : GoodIn wsX11_between wsX9_follow := gdC (gd1 m28_4)
theorem gX11_between_X9_follow : GoodIn wsX11_between (wsV RX11 174 RX9 yX9_follow wsX9_follow) := gdC (gd4 m28_1 m28_2 m28_3 m2_4 m28_4)
theorem ggX11_between_X9_sinceAt : GoodIn wsX11_between wsX9_sinceAt := gdC (gd1 m33_21)
theorem gX11_between_X9_sinceAt : GoodIn wsX11_between (wsV RX11 188 RX9 yX9_sinceAt wsX9_sinceAt) := gdC (gd4 m33_18 m33_19 m33_20 m2_4 m33_21)
theorem dX11_between_0 : decode cX11_between 0 = .ok (.iload_n 1, 1) := by decide +kernel
theorem dX11_between_1 : decode cX11_between 1 = .ok (.invokestatic 104, 3) := by decide +kernel
theorem dX11_between_4 : decode cX11_between 4 = .ok (.ifCond .ne 6, 3) := by decide +kernel
theorem dX11_between_7 : decode cX11_between 7 = .ok (.bipush (-2), 2) := by decide +kernel
theorem dX11_between_9 : decode cX11_between 9 = .ok (.ireturn, 1) := by decide +kernel
theorem dX11_between_10 : decode cX11_between 10 = .ok (.aload_n 0, 1) := by decide +kernel
theorem dX11_between_11 : decode cX11_between 11 = .ok (.getfield 29, 3) := by decide +kernel
theorem dX11_between_14 : decode cX11_between 14 = .ok (.invokevirtual 184, 3) := by decide +kernel
theorem dX11_between_17 : decode cX11_between 17 = .ok (.ifCond .ne 6, 3) := by decide +kernel
theorem dX11_between_20 : decode cX11_between 20 = .ok (.bipush (-4), 2) := by decide +kernel
theorem dX11_between_22 : decode cX11_between 22 = .ok (.ireturn, 1) := by decide +kernel
theorem dX11_between_23 : decode cX11_between 23 = .ok (.aload_n 0, 1) := by decide +kernel
theorem dX11_between_24 : decode cX11_between 24 = .ok (.getfield 36, 3) := by decide +kernel
theorem dX11_between_27 : decode cX11_between 27 = .ok (.aload_n 0, 1) := by decide +kernel
theorem dX11_between_28 : decode cX11_between 28 = .ok (.iload_n 1, 1) := by decide +kernel
theorem dX11_between_29 : decode cX11_between 29 = .ok (.invokevirtual 108, 3) := by decide +kernel
theorem dX11_between_32 : decode cX11_between 32 = .ok (.aload_n 0, 1) := by decide +kernel
theorem dX11_between_33 : decode cX11_between 33 = .ok (.getfield 29, 3) := by decide +kernel
theorem dX11_between_36 : decode cX11_between 36 = .ok (.aload_n 0, 1) := by decide +kernel
theorem dX11_between_37 : decode cX11_between 37 = .ok (.getfield 29, 3) := by decide +kernel
theorem dX11_between_40 : decode cX11_between 40 = .ok (.invokevirtual 151, 3) := by decide +kernel
theorem dX11_between_43 : decode cX11_between 43 = .ok (.invokevirtual 174, 3) := by decide +kernel
theorem dX11_between_46 : decode cX11_between 46 = .ok (.aload_n 0, 1) := by decide +kernel
theorem dX11_between_47 : decode cX11_between 47 = .ok (.getfield 36, 3) := by decide +kernel
theorem dX11_between_50 : decode cX11_between 50 = .ok (.aload_n 0, 1) := by decide +kernel
theorem dX11_between_51 : decode cX11_between 51 = .ok (.getfield 29, 3) := by decide +kernel
theorem dX11_between_54 : decode cX11_between 54 = .ok (.invokevirtual 151, 3) := by decide +kernel
theorem dX11_between_57 : decode cX11_between 57 = .ok (.invokevirtual 188, 3) := by decide +kernel
theorem dX11_between_60 : decode cX11_between 60 = .ok (.ireturn, 1) := by decide +kernel
theorem ggX11_places_X11_isReader : GoodIn wsX11_places wsX11_isReader := gdC (gd1 m10_11)
theorem gX11_places_X11_isReader : GoodIn wsX11_places (va_wsS RX11 104 yX11_isReader wsX11_isReader) := gdC (gd3 m10_9 m10_10 m1_2 m10_11)
theorem ggX11_places_X11_placesOf : GoodIn wsX11_places wsX11_placesOf := gdC (gd1 m34_9)
theorem gX11_places_X11_placesOf : GoodIn wsX11_places (wsV RX11 191 RX11 yX11_placesOf wsX11_placesOf) := gdC (gd4 m34_6 m34_7 m34_8 m1_2 m34_9)
theorem ggX11_places_X4_areSpent : GoodIn wsX11_places wsX4_areSpent := gdC (gd1 m34_13)
theorem gX11_places_X4_areSpent : GoodIn wsX11_places (wsV RX11 195 RX4 yX4_areSpent wsX4_areSpent) := gdC (gd4 m34_10 m34_11 m34_12 m2_12 m34_13)
theorem ggX11_places_X4_size : GoodIn wsX11_places wsX4_size := gdC (gd1 m39_10)
theorem gX11_places_X4_size : GoodIn wsX11_places (wsV RX11 198 RX4 yX4_size wsX4_size) := gdC (gd4 m39_7 m39_8 m39_9 m2_12 m39_10)
theorem dX11_places_0 : decode cX11_places 0 = .ok (.iload_n 1, 1) := by decide +kernel
theorem dX11_places_1 : decode cX11_places 1 = .ok (.invokestatic 104, 3) := by decide +kernel
theorem dX11_places_4 : decode cX11_places 4 = .ok (.ifCond .ne 11, 3) := by decide +kernel
theorem dX11_places_7 : decode cX11_places 7 = .ok (.iload_n 1, 1) := by decide +kernel
theorem dX11_places_8 : decode cX11_places 8 = .ok (.iconst 2, 1) := by decide +kernel
theorem dX11_places_9 : decode cX11_places 9 = .ok (.if_icmp .eq 6, 3) := by decide +kernel
theorem dX11_places_12 : decode cX11_places 12 = .ok (.bipush (-2), 2) := by decide +kernel
theorem dX11_places_14 : decode cX11_places 14 = .ok (.ireturn, 1) := by decide +kernel
theorem dX11_places_15 : decode cX11_places 15 = .ok (.aload_n 0, 1) := by decide +kernel
theorem dX11_places_16 : decode cX11_places 16 = .ok (.iload_n 1, 1) := by decide +kernel
theorem dX11_places_17 : decode cX11_places 17 = .ok (.invokevirtual 191, 3) := by decide +kernel
theorem dX11_places_20 : decode cX11_places 20 = .ok (.astore_n 2, 1) := by decide +kernel
theorem dX11_places_21 : decode cX11_places 21 = .ok (.aload_n 2, 1) := by decide +kernel
theorem dX11_places_22 : decode cX11_places 22 = .ok (.invokevirtual 195, 3) := by decide +kernel
theorem dX11_places_25 : decode cX11_places 25 = .ok (.ifCond .eq 8, 3) := by decide +kernel
theorem dX11_places_28 : decode cX11_places 28 = .ok (.bipush (-6), 2) := by decide +kernel
theorem dX11_places_30 : decode cX11_places 30 = .ok (.goto 7, 3) := by decide +kernel
theorem dX11_places_33 : decode cX11_places 33 = .ok (.aload_n 2, 1) := by decide +kernel
theorem dX11_places_34 : decode cX11_places 34 = .ok (.invokevirtual 198, 3) := by decide +kernel
theorem dX11_places_37 : decode cX11_places 37 = .ok (.ireturn, 1) := by decide +kernel
theorem ggX11_alike_X11_isReader : GoodIn wsX11_alike wsX11_isReader := gdC (gd1 m10_11)
theorem gX11_alike_X11_isReader : GoodIn wsX11_alike (va_wsS RX11 104 yX11_isReader wsX11_isReader) := gdC (gd3 m10_9 m10_10 m1_2 m10_11)
theorem ggX11_alike_X11_isBehind : GoodIn wsX11_alike wsX11_isBehind := gdC (gd1 m25_23)
theorem gX11_alike_X11_isBehind : GoodIn wsX11_alike (wsV RX11 164 RX11 yX11_isBehind wsX11_isBehind) := gdC (gd4 m25_20 m25_21 m25_22 m1_2 m25_23)
theorem ggX11_alike_X11_isAtOnePlace : GoodIn wsX11_alike wsX11_isAtOnePlace := gdC (gd1 m41_2)
theorem gX11_alike_X11_isAtOnePlace : GoodIn wsX11_alike (wsV RX11 199 RX11 yX11_isAtOnePlace wsX11_isAtOnePlace) := gdC (gd4 m40_23 m41_0 m41_1 m1_2 m41_2)
theorem dX11_alike_0 : decode cX11_alike 0 = .ok (.iload_n 1, 1) := by decide +kernel
theorem dX11_alike_1 : decode cX11_alike 1 = .ok (.invokestatic 104, 3) := by decide +kernel
theorem dX11_alike_4 : decode cX11_alike 4 = .ok (.ifCond .ne 11, 3) := by decide +kernel
theorem dX11_alike_7 : decode cX11_alike 7 = .ok (.iload_n 1, 1) := by decide +kernel
theorem dX11_alike_8 : decode cX11_alike 8 = .ok (.iconst 2, 1) := by decide +kernel
theorem dX11_alike_9 : decode cX11_alike 9 = .ok (.if_icmp .eq 6, 3) := by decide +kernel
theorem dX11_alike_12 : decode cX11_alike 12 = .ok (.bipush (-2), 2) := by decide +kernel
theorem dX11_alike_14 : decode cX11_alike 14 = .ok (.ireturn, 1) := by decide +kernel
theorem dX11_alike_15 : decode cX11_alike 15 = .ok (.aload_n 0, 1) := by decide +kernel
theorem dX11_alike_16 : decode cX11_alike 16 = .ok (.iload_n 2, 1) := by decide +kernel
theorem dX11_alike_17 : decode cX11_alike 17 = .ok (.invokevirtual 164, 3) := by decide +kernel
theorem dX11_alike_20 : decode cX11_alike 20 = .ok (.ifCond .eq 11, 3) := by decide +kernel
theorem dX11_alike_23 : decode cX11_alike 23 = .ok (.aload_n 0, 1) := by decide +kernel
theorem dX11_alike_24 : decode cX11_alike 24 = .ok (.iload_n 3, 1) := by decide +kernel
theorem dX11_alike_25 : decode cX11_alike 25 = .ok (.invokevirtual 164, 3) := by decide +kernel
theorem dX11_alike_28 : decode cX11_alike 28 = .ok (.ifCond .ne 6, 3) := by decide +kernel
theorem dX11_alike_31 : decode cX11_alike 31 = .ok (.bipush (-3), 2) := by decide +kernel
theorem dX11_alike_33 : decode cX11_alike 33 = .ok (.ireturn, 1) := by decide +kernel
theorem dX11_alike_34 : decode cX11_alike 34 = .ok (.iload_n 1, 1) := by decide +kernel
theorem dX11_alike_35 : decode cX11_alike 35 = .ok (.iconst 1, 1) := by decide +kernel
theorem dX11_alike_36 : decode cX11_alike 36 = .ok (.if_icmp .eq 16, 3) := by decide +kernel
theorem dX11_alike_39 : decode cX11_alike 39 = .ok (.aload_n 0, 1) := by decide +kernel
theorem dX11_alike_40 : decode cX11_alike 40 = .ok (.aload_n 0, 1) := by decide +kernel
theorem dX11_alike_41 : decode cX11_alike 41 = .ok (.getfield 10, 3) := by decide +kernel
theorem dX11_alike_44 : decode cX11_alike 44 = .ok (.iload_n 2, 1) := by decide +kernel
theorem dX11_alike_45 : decode cX11_alike 45 = .ok (.iload_n 3, 1) := by decide +kernel
theorem dX11_alike_46 : decode cX11_alike 46 = .ok (.invokevirtual 199, 3) := by decide +kernel
theorem dX11_alike_49 : decode cX11_alike 49 = .ok (.ifCond .eq 7, 3) := by decide +kernel
theorem dX11_alike_52 : decode cX11_alike 52 = .ok (.iconst 1, 1) := by decide +kernel
theorem dX11_alike_53 : decode cX11_alike 53 = .ok (.goto 4, 3) := by decide +kernel
theorem dX11_alike_56 : decode cX11_alike 56 = .ok (.iconst 0, 1) := by decide +kernel
theorem dX11_alike_57 : decode cX11_alike 57 = .ok (.istore 4, 2) := by decide +kernel
theorem dX11_alike_59 : decode cX11_alike 59 = .ok (.iload 4, 2) := by decide +kernel
theorem dX11_alike_61 : decode cX11_alike 61 = .ok (.ifCond .eq 24, 3) := by decide +kernel
theorem dX11_alike_64 : decode cX11_alike 64 = .ok (.iload_n 1, 1) := by decide +kernel
theorem dX11_alike_65 : decode cX11_alike 65 = .ok (.ifCond .eq 16, 3) := by decide +kernel
theorem dX11_alike_68 : decode cX11_alike 68 = .ok (.aload_n 0, 1) := by decide +kernel
theorem dX11_alike_69 : decode cX11_alike 69 = .ok (.aload_n 0, 1) := by decide +kernel
theorem dX11_alike_70 : decode cX11_alike 70 = .ok (.getfield 16, 3) := by decide +kernel
theorem dX11_alike_73 : decode cX11_alike 73 = .ok (.iload_n 2, 1) := by decide +kernel
theorem dX11_alike_74 : decode cX11_alike 74 = .ok (.iload_n 3, 1) := by decide +kernel
theorem dX11_alike_75 : decode cX11_alike 75 = .ok (.invokevirtual 199, 3) := by decide +kernel
theorem dX11_alike_78 : decode cX11_alike 78 = .ok (.ifCond .eq 7, 3) := by decide +kernel
theorem dX11_alike_81 : decode cX11_alike 81 = .ok (.iconst 1, 1) := by decide +kernel
theorem dX11_alike_82 : decode cX11_alike 82 = .ok (.goto 4, 3) := by decide +kernel
theorem dX11_alike_85 : decode cX11_alike 85 = .ok (.iconst 0, 1) := by decide +kernel
theorem dX11_alike_86 : decode cX11_alike 86 = .ok (.istore 4, 2) := by decide +kernel
theorem dX11_alike_88 : decode cX11_alike 88 = .ok (.iload 4, 2) := by decide +kernel
theorem dX11_alike_90 : decode cX11_alike 90 = .ok (.ifCond .eq 7, 3) := by decide +kernel
theorem dX11_alike_93 : decode cX11_alike 93 = .ok (.iconst 1, 1) := by decide +kernel
theorem dX11_alike_94 : decode cX11_alike 94 = .ok (.goto 4, 3) := by decide +kernel
theorem dX11_alike_97 : decode cX11_alike 97 = .ok (.iconst 0, 1) := by decide +kernel
theorem dX11_alike_98 : decode cX11_alike 98 = .ok (.ireturn, 1) := by decide +kernel
theorem ggX11_shortest_X11_isReader : GoodIn wsX11_shortest wsX11_isReader := gdC (gd1 m10_11)
theorem gX11_shortest_X11_isReader : GoodIn wsX11_shortest (va_wsS RX11 104 yX11_isReader wsX11_isReader) := gdC (gd3 m10_9 m10_10 m1_2 m10_11)
theorem ggX11_shortest_X11_placesOf : GoodIn wsX11_shortest wsX11_placesOf := gdC (gd1 m34_9)
theorem gX11_shortest_X11_placesOf : GoodIn wsX11_shortest (wsV RX11 191 RX11 yX11_placesOf wsX11_placesOf) := gdC (gd4 m34_6 m34_7 m34_8 m1_2 m34_9)
theorem ggX11_shortest_X4_areSpent : GoodIn wsX11_shortest wsX4_areSpent := gdC (gd1 m34_13)
theorem gX11_shortest_X4_areSpent : GoodIn wsX11_shortest (wsV RX11 195 RX4 yX4_areSpent wsX4_areSpent) := gdC (gd4 m34_10 m34_11 m34_12 m2_12 m34_13)
theorem ggX11_shortest_X11_lengthsOf : GoodIn wsX11_shortest wsX11_lengthsOf := gdC (gd1 m41_18)
theorem gX11_shortest_X11_lengthsOf : GoodIn wsX11_shortest (wsV RX11 203 RX11 yX11_lengthsOf wsX11_lengthsOf) := gdC (gd4 m41_15 m41_16 m41_17 m1_2 m41_18)
theorem ggX11_shortest_X4_held : GoodIn wsX11_shortest wsX4_held := gdC (gd1 m7_11)
theorem gX11_shortest_X4_held : GoodIn wsX11_shortest (wsV RX11 207 RX4 yX4_held wsX4_held) := gdC (gd4 m41_19 m7_9 m7_10 m2_12 m7_11)
theorem ggX11_shortest_X1_takenByOne : GoodIn wsX11_shortest wsX1_takenByOne := gdC (gd1 m41_23)
theorem gX11_shortest_X1_takenByOne : GoodIn wsX11_shortest (wsV RX11 211 RX1 yX1_takenByOne wsX1_takenByOne) := gdC (gd4 m41_20 m41_21 m41_22 m2_15 m41_23)
theorem ggX11_shortest_X2_least : GoodIn wsX11_shortest wsX2_least := gdC (gd1 m42_5)
theorem gX11_shortest_X2_least : GoodIn wsX11_shortest (wsV RX11 215 RX2 yX2_least wsX2_least) := gdC (gd4 m42_2 m42_3 m42_4 m2_21 m42_5)
theorem dX11_shortest_0 : decode cX11_shortest 0 = .ok (.iload_n 1, 1) := by decide +kernel
theorem dX11_shortest_1 : decode cX11_shortest 1 = .ok (.invokestatic 104, 3) := by decide +kernel
theorem dX11_shortest_4 : decode cX11_shortest 4 = .ok (.ifCond .ne 6, 3) := by decide +kernel
theorem dX11_shortest_7 : decode cX11_shortest 7 = .ok (.bipush (-2), 2) := by decide +kernel
theorem dX11_shortest_9 : decode cX11_shortest 9 = .ok (.ireturn, 1) := by decide +kernel
theorem dX11_shortest_10 : decode cX11_shortest 10 = .ok (.aload_n 0, 1) := by decide +kernel
theorem dX11_shortest_11 : decode cX11_shortest 11 = .ok (.iload_n 1, 1) := by decide +kernel
theorem dX11_shortest_12 : decode cX11_shortest 12 = .ok (.invokevirtual 191, 3) := by decide +kernel
theorem dX11_shortest_15 : decode cX11_shortest 15 = .ok (.astore_n 2, 1) := by decide +kernel
theorem dX11_shortest_16 : decode cX11_shortest 16 = .ok (.aload_n 2, 1) := by decide +kernel
theorem dX11_shortest_17 : decode cX11_shortest 17 = .ok (.invokevirtual 195, 3) := by decide +kernel
theorem dX11_shortest_20 : decode cX11_shortest 20 = .ok (.ifCond .eq 6, 3) := by decide +kernel
theorem dX11_shortest_23 : decode cX11_shortest 23 = .ok (.bipush (-6), 2) := by decide +kernel
theorem dX11_shortest_25 : decode cX11_shortest 25 = .ok (.ireturn, 1) := by decide +kernel
theorem dX11_shortest_26 : decode cX11_shortest 26 = .ok (.aload_n 0, 1) := by decide +kernel
theorem dX11_shortest_27 : decode cX11_shortest 27 = .ok (.iload_n 1, 1) := by decide +kernel
theorem dX11_shortest_28 : decode cX11_shortest 28 = .ok (.invokevirtual 203, 3) := by decide +kernel
theorem dX11_shortest_31 : decode cX11_shortest 31 = .ok (.aload_n 2, 1) := by decide +kernel
theorem dX11_shortest_32 : decode cX11_shortest 32 = .ok (.invokevirtual 207, 3) := by decide +kernel
theorem dX11_shortest_35 : decode cX11_shortest 35 = .ok (.invokevirtual 211, 3) := by decide +kernel
theorem dX11_shortest_38 : decode cX11_shortest 38 = .ok (.invokevirtual 215, 3) := by decide +kernel
theorem dX11_shortest_41 : decode cX11_shortest 41 = .ok (.ireturn, 1) := by decide +kernel
theorem ggX11_first_X11_isReader : GoodIn wsX11_first wsX11_isReader := gdC (gd1 m10_11)
theorem gX11_first_X11_isReader : GoodIn wsX11_first (va_wsS RX11 104 yX11_isReader wsX11_isReader) := gdC (gd3 m10_9 m10_10 m1_2 m10_11)
theorem ggX11_first_X11_placesOf : GoodIn wsX11_first wsX11_placesOf := gdC (gd1 m34_9)
theorem gX11_first_X11_placesOf : GoodIn wsX11_first (wsV RX11 191 RX11 yX11_placesOf wsX11_placesOf) := gdC (gd4 m34_6 m34_7 m34_8 m1_2 m34_9)
theorem ggX11_first_X4_areSpent : GoodIn wsX11_first wsX4_areSpent := gdC (gd1 m34_13)
theorem gX11_first_X4_areSpent : GoodIn wsX11_first (wsV RX11 195 RX4 yX4_areSpent wsX4_areSpent) := gdC (gd4 m34_10 m34_11 m34_12 m2_12 m34_13)
theorem ggX11_first_X11_lengthsOf : GoodIn wsX11_first wsX11_lengthsOf := gdC (gd1 m41_18)
theorem gX11_first_X11_lengthsOf : GoodIn wsX11_first (wsV RX11 203 RX11 yX11_lengthsOf wsX11_lengthsOf) := gdC (gd4 m41_15 m41_16 m41_17 m1_2 m41_18)
theorem ggX11_first_X4_held : GoodIn wsX11_first wsX4_held := gdC (gd1 m7_11)
theorem gX11_first_X4_held : GoodIn wsX11_first (wsV RX11 207 RX4 yX4_held wsX4_held) := gdC (gd4 m41_19 m7_9 m7_10 m2_12 m7_11)
theorem ggX11_first_X1_takenByOne : GoodIn wsX11_first wsX1_takenByOne := gdC (gd1 m41_23)
theorem gX11_first_X1_takenByOne : GoodIn wsX11_first (wsV RX11 211 RX1 yX1_takenByOne wsX1_takenByOne) := gdC (gd4 m41_20 m41_21 m41_22 m2_15 m41_23)
theorem ggX11_first_X2_least : GoodIn wsX11_first wsX2_least := gdC (gd1 m42_5)
theorem gX11_first_X2_least : GoodIn wsX11_first (wsV RX11 215 RX2 yX2_least wsX2_least) := gdC (gd4 m42_2 m42_3 m42_4 m2_21 m42_5)
theorem ggX11_first_X11_listingOf : GoodIn wsX11_first wsX11_listingOf := gdC (gd1 m45_10)
theorem gX11_first_X11_listingOf : GoodIn wsX11_first (wsV RX11 219 RX11 yX11_listingOf wsX11_listingOf) := gdC (gd4 m45_7 m45_8 m45_9 m1_2 m45_10)
theorem ggX11_first_X3_letterAt : GoodIn wsX11_first wsX3_letterAt := gdC (gd1 m45_14)
theorem gX11_first_X3_letterAt : GoodIn wsX11_first (wsV RX11 223 RX3 yX3_letterAt wsX3_letterAt) := gdC (gd4 m45_11 m45_12 m45_13 m3_8 m45_14)
theorem dX11_first_0 : decode cX11_first 0 = .ok (.iload_n 1, 1) := by decide +kernel
theorem dX11_first_1 : decode cX11_first 1 = .ok (.invokestatic 104, 3) := by decide +kernel
theorem dX11_first_4 : decode cX11_first 4 = .ok (.ifCond .ne 6, 3) := by decide +kernel
theorem dX11_first_7 : decode cX11_first 7 = .ok (.bipush (-2), 2) := by decide +kernel
theorem dX11_first_9 : decode cX11_first 9 = .ok (.ireturn, 1) := by decide +kernel
theorem dX11_first_10 : decode cX11_first 10 = .ok (.iload_n 2, 1) := by decide +kernel
theorem dX11_first_11 : decode cX11_first 11 = .ok (.ifCond .ge 6, 3) := by decide +kernel
theorem dX11_first_14 : decode cX11_first 14 = .ok (.bipush (-3), 2) := by decide +kernel
theorem dX11_first_16 : decode cX11_first 16 = .ok (.ireturn, 1) := by decide +kernel
theorem dX11_first_17 : decode cX11_first 17 = .ok (.aload_n 0, 1) := by decide +kernel
theorem dX11_first_18 : decode cX11_first 18 = .ok (.iload_n 1, 1) := by decide +kernel
theorem dX11_first_19 : decode cX11_first 19 = .ok (.invokevirtual 191, 3) := by decide +kernel
theorem dX11_first_22 : decode cX11_first 22 = .ok (.astore_n 3, 1) := by decide +kernel
theorem dX11_first_23 : decode cX11_first 23 = .ok (.aload_n 3, 1) := by decide +kernel
theorem dX11_first_24 : decode cX11_first 24 = .ok (.invokevirtual 195, 3) := by decide +kernel
theorem dX11_first_27 : decode cX11_first 27 = .ok (.ifCond .eq 6, 3) := by decide +kernel
theorem dX11_first_30 : decode cX11_first 30 = .ok (.bipush (-6), 2) := by decide +kernel
theorem dX11_first_32 : decode cX11_first 32 = .ok (.ireturn, 1) := by decide +kernel
theorem dX11_first_33 : decode cX11_first 33 = .ok (.aload_n 0, 1) := by decide +kernel
theorem dX11_first_34 : decode cX11_first 34 = .ok (.iload_n 1, 1) := by decide +kernel
theorem dX11_first_35 : decode cX11_first 35 = .ok (.invokevirtual 203, 3) := by decide +kernel
theorem dX11_first_38 : decode cX11_first 38 = .ok (.aload_n 3, 1) := by decide +kernel
theorem dX11_first_39 : decode cX11_first 39 = .ok (.invokevirtual 207, 3) := by decide +kernel
theorem dX11_first_42 : decode cX11_first 42 = .ok (.invokevirtual 211, 3) := by decide +kernel
theorem dX11_first_45 : decode cX11_first 45 = .ok (.invokevirtual 215, 3) := by decide +kernel
theorem dX11_first_48 : decode cX11_first 48 = .ok (.istore 4, 2) := by decide +kernel
theorem dX11_first_50 : decode cX11_first 50 = .ok (.aload_n 0, 1) := by decide +kernel
theorem dX11_first_51 : decode cX11_first 51 = .ok (.iload_n 1, 1) := by decide +kernel
theorem dX11_first_52 : decode cX11_first 52 = .ok (.invokevirtual 219, 3) := by decide +kernel
theorem dX11_first_55 : decode cX11_first 55 = .ok (.iload 4, 2) := by decide +kernel
theorem dX11_first_57 : decode cX11_first 57 = .ok (.iconst 0, 1) := by decide +kernel
theorem dX11_first_58 : decode cX11_first 58 = .ok (.iload_n 2, 1) := by decide +kernel
theorem dX11_first_59 : decode cX11_first 59 = .ok (.invokevirtual 223, 3) := by decide +kernel
theorem dX11_first_62 : decode cX11_first 62 = .ok (.ireturn, 1) := by decide +kernel
theorem ggX11_many_X11_isReader : GoodIn wsX11_many wsX11_isReader := gdC (gd1 m10_11)
theorem gX11_many_X11_isReader : GoodIn wsX11_many (va_wsS RX11 104 yX11_isReader wsX11_isReader) := gdC (gd3 m10_9 m10_10 m1_2 m10_11)
theorem ggX11_many_X11_placesOf : GoodIn wsX11_many wsX11_placesOf := gdC (gd1 m34_9)
theorem gX11_many_X11_placesOf : GoodIn wsX11_many (wsV RX11 191 RX11 yX11_placesOf wsX11_placesOf) := gdC (gd4 m34_6 m34_7 m34_8 m1_2 m34_9)
theorem ggX11_many_X4_areSpent : GoodIn wsX11_many wsX4_areSpent := gdC (gd1 m34_13)
theorem gX11_many_X4_areSpent : GoodIn wsX11_many (wsV RX11 195 RX4 yX4_areSpent wsX4_areSpent) := gdC (gd4 m34_10 m34_11 m34_12 m2_12 m34_13)
theorem ggX11_many_X4_held : GoodIn wsX11_many wsX4_held := gdC (gd1 m7_11)
theorem gX11_many_X4_held : GoodIn wsX11_many (wsV RX11 207 RX4 yX4_held wsX4_held) := gdC (gd4 m41_19 m7_9 m7_10 m2_12 m7_11)
theorem ggX11_many_X1_takenByOne : GoodIn wsX11_many wsX1_takenByOne := gdC (gd1 m41_23)
theorem gX11_many_X1_takenByOne : GoodIn wsX11_many (wsV RX11 211 RX1 yX1_takenByOne wsX1_takenByOne) := gdC (gd4 m41_20 m41_21 m41_22 m2_15 m41_23)
theorem ggX11_many_X0_rowsWithin : GoodIn wsX11_many wsX0_rowsWithin := gdC (gd1 m47_13)
theorem gX11_many_X0_rowsWithin : GoodIn wsX11_many (wsV RX11 227 RX0 yX0_rowsWithin wsX0_rowsWithin) := gdC (gd4 m47_10 m47_11 m47_12 m3_3 m47_13)
theorem dX11_many_0 : decode cX11_many 0 = .ok (.iload_n 1, 1) := by decide +kernel
theorem dX11_many_1 : decode cX11_many 1 = .ok (.invokestatic 104, 3) := by decide +kernel
theorem dX11_many_4 : decode cX11_many 4 = .ok (.ifCond .ne 6, 3) := by decide +kernel
theorem dX11_many_7 : decode cX11_many 7 = .ok (.bipush (-2), 2) := by decide +kernel
theorem dX11_many_9 : decode cX11_many 9 = .ok (.ireturn, 1) := by decide +kernel
theorem dX11_many_10 : decode cX11_many 10 = .ok (.iload_n 2, 1) := by decide +kernel
theorem dX11_many_11 : decode cX11_many 11 = .ok (.ifCond .lt 9, 3) := by decide +kernel
theorem dX11_many_14 : decode cX11_many 14 = .ok (.iload_n 2, 1) := by decide +kernel
theorem dX11_many_15 : decode cX11_many 15 = .ok (.bipush 12, 2) := by decide +kernel
theorem dX11_many_17 : decode cX11_many 17 = .ok (.if_icmp .le 6, 3) := by decide +kernel
theorem dX11_many_20 : decode cX11_many 20 = .ok (.bipush (-3), 2) := by decide +kernel
theorem dX11_many_22 : decode cX11_many 22 = .ok (.ireturn, 1) := by decide +kernel
theorem dX11_many_23 : decode cX11_many 23 = .ok (.aload_n 0, 1) := by decide +kernel
theorem dX11_many_24 : decode cX11_many 24 = .ok (.iload_n 1, 1) := by decide +kernel
theorem dX11_many_25 : decode cX11_many 25 = .ok (.invokevirtual 191, 3) := by decide +kernel
theorem dX11_many_28 : decode cX11_many 28 = .ok (.astore_n 3, 1) := by decide +kernel
theorem dX11_many_29 : decode cX11_many 29 = .ok (.aload_n 3, 1) := by decide +kernel
theorem dX11_many_30 : decode cX11_many 30 = .ok (.invokevirtual 195, 3) := by decide +kernel
theorem dX11_many_33 : decode cX11_many 33 = .ok (.ifCond .eq 6, 3) := by decide +kernel
theorem dX11_many_36 : decode cX11_many 36 = .ok (.bipush (-6), 2) := by decide +kernel
theorem dX11_many_38 : decode cX11_many 38 = .ok (.ireturn, 1) := by decide +kernel
theorem dX11_many_39 : decode cX11_many 39 = .ok (.iload_n 1, 1) := by decide +kernel
theorem dX11_many_40 : decode cX11_many 40 = .ok (.ifCond .ne 10, 3) := by decide +kernel
theorem dX11_many_43 : decode cX11_many 43 = .ok (.aload_n 0, 1) := by decide +kernel
theorem dX11_many_44 : decode cX11_many 44 = .ok (.getfield 85, 3) := by decide +kernel
theorem dX11_many_47 : decode cX11_many 47 = .ok (.goto 7, 3) := by decide +kernel
theorem dX11_many_50 : decode cX11_many 50 = .ok (.aload_n 0, 1) := by decide +kernel
theorem dX11_many_51 : decode cX11_many 51 = .ok (.getfield 89, 3) := by decide +kernel
theorem dX11_many_54 : decode cX11_many 54 = .ok (.astore 4, 2) := by decide +kernel
theorem dX11_many_56 : decode cX11_many 56 = .ok (.aload 4, 2) := by decide +kernel
theorem dX11_many_58 : decode cX11_many 58 = .ok (.aload_n 3, 1) := by decide +kernel
theorem dX11_many_59 : decode cX11_many 59 = .ok (.invokevirtual 207, 3) := by decide +kernel
theorem dX11_many_62 : decode cX11_many 62 = .ok (.invokevirtual 211, 3) := by decide +kernel
theorem dX11_many_65 : decode cX11_many 65 = .ok (.iload_n 2, 1) := by decide +kernel
theorem dX11_many_66 : decode cX11_many 66 = .ok (.invokevirtual 227, 3) := by decide +kernel
theorem dX11_many_69 : decode cX11_many 69 = .ok (.ireturn, 1) := by decide +kernel
theorem ggX11_of_X11_isReader : GoodIn wsX11_of wsX11_isReader := gdC (gd1 m10_11)
theorem gX11_of_X11_isReader : GoodIn wsX11_of (va_wsS RX11 104 yX11_isReader wsX11_isReader) := gdC (gd3 m10_9 m10_10 m1_2 m10_11)
theorem ggX11_of_X11_listingOf : GoodIn wsX11_of wsX11_listingOf := gdC (gd1 m45_10)
theorem gX11_of_X11_listingOf : GoodIn wsX11_of (wsV RX11 219 RX11 yX11_listingOf wsX11_listingOf) := gdC (gd4 m45_7 m45_8 m45_9 m1_2 m45_10)
theorem ggX11_of_X3_letterAt : GoodIn wsX11_of wsX3_letterAt := gdC (gd1 m45_14)
theorem gX11_of_X3_letterAt : GoodIn wsX11_of (wsV RX11 223 RX3 yX3_letterAt wsX3_letterAt) := gdC (gd4 m45_11 m45_12 m45_13 m3_8 m45_14)
theorem dX11_of_0 : decode cX11_of 0 = .ok (.iload_n 1, 1) := by decide +kernel
theorem dX11_of_1 : decode cX11_of 1 = .ok (.invokestatic 104, 3) := by decide +kernel
theorem dX11_of_4 : decode cX11_of 4 = .ok (.ifCond .ne 6, 3) := by decide +kernel
theorem dX11_of_7 : decode cX11_of 7 = .ok (.bipush (-2), 2) := by decide +kernel
theorem dX11_of_9 : decode cX11_of 9 = .ok (.ireturn, 1) := by decide +kernel
theorem dX11_of_10 : decode cX11_of 10 = .ok (.iload_n 2, 1) := by decide +kernel
theorem dX11_of_11 : decode cX11_of 11 = .ok (.ifCond .lt 17, 3) := by decide +kernel
theorem dX11_of_14 : decode cX11_of 14 = .ok (.iload_n 2, 1) := by decide +kernel
theorem dX11_of_15 : decode cX11_of 15 = .ok (.iconst 5, 1) := by decide +kernel
theorem dX11_of_16 : decode cX11_of 16 = .ok (.if_icmp .gt 12, 3) := by decide +kernel
theorem dX11_of_19 : decode cX11_of 19 = .ok (.iload_n 3, 1) := by decide +kernel
theorem dX11_of_20 : decode cX11_of 20 = .ok (.ifCond .lt 8, 3) := by decide +kernel
theorem dX11_of_23 : decode cX11_of 23 = .ok (.iload 4, 2) := by decide +kernel
theorem dX11_of_25 : decode cX11_of 25 = .ok (.ifCond .ge 6, 3) := by decide +kernel
theorem dX11_of_28 : decode cX11_of 28 = .ok (.bipush (-3), 2) := by decide +kernel
theorem dX11_of_30 : decode cX11_of 30 = .ok (.ireturn, 1) := by decide +kernel
theorem dX11_of_31 : decode cX11_of 31 = .ok (.aload_n 0, 1) := by decide +kernel
theorem dX11_of_32 : decode cX11_of 32 = .ok (.iload_n 1, 1) := by decide +kernel
theorem dX11_of_33 : decode cX11_of 33 = .ok (.invokevirtual 219, 3) := by decide +kernel
theorem dX11_of_36 : decode cX11_of 36 = .ok (.iload_n 2, 1) := by decide +kernel
theorem dX11_of_37 : decode cX11_of 37 = .ok (.iload_n 3, 1) := by decide +kernel
theorem dX11_of_38 : decode cX11_of 38 = .ok (.iload 4, 2) := by decide +kernel
theorem dX11_of_40 : decode cX11_of 40 = .ok (.invokevirtual 223, 3) := by decide +kernel
theorem dX11_of_43 : decode cX11_of 43 = .ok (.ireturn, 1) := by decide +kernel
theorem ggX11_watch_X11_isReader : GoodIn wsX11_watch wsX11_isReader := gdC (gd1 m10_11)
theorem gX11_watch_X11_isReader : GoodIn wsX11_watch (va_wsS RX11 104 yX11_isReader wsX11_isReader) := gdC (gd3 m10_9 m10_10 m1_2 m10_11)
theorem ggX11_watch_X11_isBehind : GoodIn wsX11_watch wsX11_isBehind := gdC (gd1 m25_23)
theorem gX11_watch_X11_isBehind : GoodIn wsX11_watch (wsV RX11 164 RX11 yX11_isBehind wsX11_isBehind) := gdC (gd4 m25_20 m25_21 m25_22 m1_2 m25_23)
theorem ggX11_watch_X11_placesOf : GoodIn wsX11_watch wsX11_placesOf := gdC (gd1 m34_9)
theorem gX11_watch_X11_placesOf : GoodIn wsX11_watch (wsV RX11 191 RX11 yX11_placesOf wsX11_placesOf) := gdC (gd4 m34_6 m34_7 m34_8 m1_2 m34_9)
theorem ggX11_watch_X4_areSpent : GoodIn wsX11_watch wsX4_areSpent := gdC (gd1 m34_13)
theorem gX11_watch_X4_areSpent : GoodIn wsX11_watch (wsV RX11 195 RX4 yX4_areSpent wsX4_areSpent) := gdC (gd4 m34_10 m34_11 m34_12 m2_12 m34_13)
theorem ggX11_watch_X11_chosen : GoodIn wsX11_watch wsX11_chosen := gdC (gd1 m10_15)
theorem gX11_watch_X11_chosen : GoodIn wsX11_watch (wsV RX11 108 RX11 yX11_chosen wsX11_chosen) := gdC (gd4 m10_12 m10_13 m10_14 m1_2 m10_15)
theorem ggX11_watch_X9_follow : GoodIn wsX11_watch wsX9_follow := gdC (gd1 m28_4)
theorem gX11_watch_X9_follow : GoodIn wsX11_watch (wsV RX11 174 RX9 yX9_follow wsX9_follow) := gdC (gd4 m28_1 m28_2 m28_3 m2_4 m28_4)
theorem ggX11_watch_X4_codesAhead : GoodIn wsX11_watch wsX4_codesAhead := gdC (gd1 m51_9)
theorem gX11_watch_X4_codesAhead : GoodIn wsX11_watch (wsV RX11 230 RX4 yX4_codesAhead wsX4_codesAhead) := gdC (gd4 m51_6 m51_7 m51_8 m2_12 m51_9)
theorem ggX11_watch_X4_held : GoodIn wsX11_watch wsX4_held := gdC (gd1 m7_11)
theorem gX11_watch_X4_held : GoodIn wsX11_watch (wsV RX11 207 RX4 yX4_held wsX4_held) := gdC (gd4 m41_19 m7_9 m7_10 m2_12 m7_11)
theorem ggX11_watch_X1_takenByOne : GoodIn wsX11_watch wsX1_takenByOne := gdC (gd1 m41_23)
theorem gX11_watch_X1_takenByOne : GoodIn wsX11_watch (wsV RX11 211 RX1 yX1_takenByOne wsX1_takenByOne) := gdC (gd4 m41_20 m41_21 m41_22 m2_15 m41_23)
theorem ggX11_watch_X9_comeAt : GoodIn wsX11_watch wsX9_comeAt := gdC (gd1 m29_21)
theorem gX11_watch_X9_comeAt : GoodIn wsX11_watch (wsV RX11 178 RX9 yX9_comeAt wsX9_comeAt) := gdC (gd4 m29_18 m29_19 m29_20 m2_4 m29_21)
theorem ggX11_watch_X5_takesAny : GoodIn wsX11_watch wsX5_takesAny := gdC (gd1 m30_1)
theorem gX11_watch_X5_takesAny : GoodIn wsX11_watch (wsV RX11 181 RX5 yX5_takesAny wsX5_takesAny) := gdC (gd4 m29_22 m29_23 m30_0 m1_15 m30_1)
theorem dX11_watch_0 : decode cX11_watch 0 = .ok (.iload_n 1, 1) := by decide +kernel
theorem dX11_watch_1 : decode cX11_watch 1 = .ok (.invokestatic 104, 3) := by decide +kernel
theorem dX11_watch_4 : decode cX11_watch 4 = .ok (.ifCond .ne 6, 3) := by decide +kernel
theorem dX11_watch_7 : decode cX11_watch 7 = .ok (.bipush (-2), 2) := by decide +kernel
theorem dX11_watch_9 : decode cX11_watch 9 = .ok (.ireturn, 1) := by decide +kernel
theorem dX11_watch_10 : decode cX11_watch 10 = .ok (.aload_n 0, 1) := by decide +kernel
theorem dX11_watch_11 : decode cX11_watch 11 = .ok (.iload_n 2, 1) := by decide +kernel
theorem dX11_watch_12 : decode cX11_watch 12 = .ok (.invokevirtual 164, 3) := by decide +kernel
theorem dX11_watch_15 : decode cX11_watch 15 = .ok (.ifCond .ne 6, 3) := by decide +kernel
theorem dX11_watch_18 : decode cX11_watch 18 = .ok (.bipush (-3), 2) := by decide +kernel
theorem dX11_watch_20 : decode cX11_watch 20 = .ok (.ireturn, 1) := by decide +kernel
theorem dX11_watch_21 : decode cX11_watch 21 = .ok (.aload_n 0, 1) := by decide +kernel
theorem dX11_watch_22 : decode cX11_watch 22 = .ok (.iload_n 1, 1) := by decide +kernel
theorem dX11_watch_23 : decode cX11_watch 23 = .ok (.invokevirtual 191, 3) := by decide +kernel
theorem dX11_watch_26 : decode cX11_watch 26 = .ok (.astore_n 3, 1) := by decide +kernel
theorem dX11_watch_27 : decode cX11_watch 27 = .ok (.aload_n 3, 1) := by decide +kernel
theorem dX11_watch_28 : decode cX11_watch 28 = .ok (.invokevirtual 195, 3) := by decide +kernel
theorem dX11_watch_31 : decode cX11_watch 31 = .ok (.ifCond .eq 6, 3) := by decide +kernel
theorem dX11_watch_34 : decode cX11_watch 34 = .ok (.bipush (-6), 2) := by decide +kernel
theorem dX11_watch_36 : decode cX11_watch 36 = .ok (.ireturn, 1) := by decide +kernel
theorem dX11_watch_37 : decode cX11_watch 37 = .ok (.aload_n 0, 1) := by decide +kernel
theorem dX11_watch_38 : decode cX11_watch 38 = .ok (.getfield 36, 3) := by decide +kernel
theorem dX11_watch_41 : decode cX11_watch 41 = .ok (.aload_n 0, 1) := by decide +kernel
theorem dX11_watch_42 : decode cX11_watch 42 = .ok (.iload_n 1, 1) := by decide +kernel
theorem dX11_watch_43 : decode cX11_watch 43 = .ok (.invokevirtual 108, 3) := by decide +kernel
theorem dX11_watch_46 : decode cX11_watch 46 = .ok (.aload_n 0, 1) := by decide +kernel
theorem dX11_watch_47 : decode cX11_watch 47 = .ok (.getfield 29, 3) := by decide +kernel
theorem dX11_watch_50 : decode cX11_watch 50 = .ok (.iload_n 2, 1) := by decide +kernel
theorem dX11_watch_51 : decode cX11_watch 51 = .ok (.invokevirtual 174, 3) := by decide +kernel
theorem dX11_watch_54 : decode cX11_watch 54 = .ok (.aload_n 3, 1) := by decide +kernel
theorem dX11_watch_55 : decode cX11_watch 55 = .ok (.aload_n 0, 1) := by decide +kernel
theorem dX11_watch_56 : decode cX11_watch 56 = .ok (.getfield 36, 3) := by decide +kernel
theorem dX11_watch_59 : decode cX11_watch 59 = .ok (.aload_n 0, 1) := by decide +kernel
theorem dX11_watch_60 : decode cX11_watch 60 = .ok (.getfield 29, 3) := by decide +kernel
theorem dX11_watch_63 : decode cX11_watch 63 = .ok (.iload_n 2, 1) := by decide +kernel
theorem dX11_watch_64 : decode cX11_watch 64 = .ok (.invokevirtual 230, 3) := by decide +kernel
theorem dX11_watch_67 : decode cX11_watch 67 = .ok (.lstore 4, 2) := by decide +kernel
theorem dX11_watch_69 : decode cX11_watch 69 = .ok (.aload_n 3, 1) := by decide +kernel
theorem dX11_watch_70 : decode cX11_watch 70 = .ok (.invokevirtual 207, 3) := by decide +kernel
theorem dX11_watch_73 : decode cX11_watch 73 = .ok (.invokevirtual 211, 3) := by decide +kernel
theorem dX11_watch_76 : decode cX11_watch 76 = .ok (.lstore 6, 2) := by decide +kernel
theorem dX11_watch_78 : decode cX11_watch 78 = .ok (.lload 4, 2) := by decide +kernel
theorem dX11_watch_80 : decode cX11_watch 80 = .ok (.lload 6, 2) := by decide +kernel
theorem dX11_watch_82 : decode cX11_watch 82 = .ok (.land, 1) := by decide +kernel
theorem dX11_watch_83 : decode cX11_watch 83 = .ok (.lconst 0, 1) := by decide +kernel
theorem dX11_watch_84 : decode cX11_watch 84 = .ok (.lcmp, 1) := by decide +kernel
theorem dX11_watch_85 : decode cX11_watch 85 = .ok (.ifCond .eq 7, 3) := by decide +kernel
theorem dX11_watch_88 : decode cX11_watch 88 = .ok (.iconst 1, 1) := by decide +kernel
theorem dX11_watch_89 : decode cX11_watch 89 = .ok (.goto 4, 3) := by decide +kernel
theorem dX11_watch_92 : decode cX11_watch 92 = .ok (.iconst 0, 1) := by decide +kernel
theorem dX11_watch_93 : decode cX11_watch 93 = .ok (.istore 8, 2) := by decide +kernel
theorem dX11_watch_95 : decode cX11_watch 95 = .ok (.iload 8, 2) := by decide +kernel
theorem dX11_watch_97 : decode cX11_watch 97 = .ok (.lload 4, 2) := by decide +kernel
theorem dX11_watch_99 : decode cX11_watch 99 = .ok (.lload 6, 2) := by decide +kernel
theorem dX11_watch_101 : decode cX11_watch 101 = .ok (.ldc2_w 234, 3) := by decide +kernel
theorem dX11_watch_104 : decode cX11_watch 104 = .ok (.lxor, 1) := by decide +kernel
theorem dX11_watch_105 : decode cX11_watch 105 = .ok (.land, 1) := by decide +kernel
theorem dX11_watch_106 : decode cX11_watch 106 = .ok (.lconst 0, 1) := by decide +kernel
theorem dX11_watch_107 : decode cX11_watch 107 = .ok (.lcmp, 1) := by decide +kernel
theorem dX11_watch_108 : decode cX11_watch 108 = .ok (.ifCond .eq 7, 3) := by decide +kernel
theorem dX11_watch_111 : decode cX11_watch 111 = .ok (.iconst 2, 1) := by decide +kernel
theorem dX11_watch_112 : decode cX11_watch 112 = .ok (.goto 4, 3) := by decide +kernel
theorem dX11_watch_115 : decode cX11_watch 115 = .ok (.iconst 0, 1) := by decide +kernel
theorem dX11_watch_116 : decode cX11_watch 116 = .ok (.ior, 1) := by decide +kernel
theorem dX11_watch_117 : decode cX11_watch 117 = .ok (.istore 8, 2) := by decide +kernel
theorem dX11_watch_119 : decode cX11_watch 119 = .ok (.iload 8, 2) := by decide +kernel
theorem dX11_watch_121 : decode cX11_watch 121 = .ok (.aload_n 0, 1) := by decide +kernel
theorem dX11_watch_122 : decode cX11_watch 122 = .ok (.iload_n 1, 1) := by decide +kernel
theorem dX11_watch_123 : decode cX11_watch 123 = .ok (.invokevirtual 108, 3) := by decide +kernel
theorem dX11_watch_126 : decode cX11_watch 126 = .ok (.aload_n 0, 1) := by decide +kernel
theorem dX11_watch_127 : decode cX11_watch 127 = .ok (.getfield 36, 3) := by decide +kernel
theorem dX11_watch_130 : decode cX11_watch 130 = .ok (.iload_n 2, 1) := by decide +kernel
theorem dX11_watch_131 : decode cX11_watch 131 = .ok (.invokevirtual 178, 3) := by decide +kernel
theorem dX11_watch_134 : decode cX11_watch 134 = .ok (.invokevirtual 181, 3) := by decide +kernel
theorem dX11_watch_137 : decode cX11_watch 137 = .ok (.ifCond .eq 7, 3) := by decide +kernel
theorem dX11_watch_140 : decode cX11_watch 140 = .ok (.iconst 4, 1) := by decide +kernel
theorem dX11_watch_141 : decode cX11_watch 141 = .ok (.goto 4, 3) := by decide +kernel
theorem dX11_watch_144 : decode cX11_watch 144 = .ok (.iconst 0, 1) := by decide +kernel
theorem dX11_watch_145 : decode cX11_watch 145 = .ok (.ior, 1) := by decide +kernel
theorem dX11_watch_146 : decode cX11_watch 146 = .ok (.istore 8, 2) := by decide +kernel
theorem dX11_watch_148 : decode cX11_watch 148 = .ok (.iload 8, 2) := by decide +kernel
theorem dX11_watch_150 : decode cX11_watch 150 = .ok (.ireturn, 1) := by decide +kernel
theorem ggX11_compare_X4_areSpent : GoodIn wsX11_compare wsX4_areSpent := gdC (gd1 m34_13)
theorem gX11_compare_X4_areSpent : GoodIn wsX11_compare (wsV RX11 195 RX4 yX4_areSpent wsX4_areSpent) := gdC (gd4 m34_10 m34_11 m34_12 m2_12 m34_13)
theorem ggX11_compare_X4_held : GoodIn wsX11_compare wsX4_held := gdC (gd1 m7_11)
theorem gX11_compare_X4_held : GoodIn wsX11_compare (wsV RX11 207 RX4 yX4_held wsX4_held) := gdC (gd4 m41_19 m7_9 m7_10 m2_12 m7_11)
theorem ggX11_compare_X1_takenByOne : GoodIn wsX11_compare wsX1_takenByOne := gdC (gd1 m41_23)
theorem gX11_compare_X1_takenByOne : GoodIn wsX11_compare (wsV RX11 211 RX1 yX1_takenByOne wsX1_takenByOne) := gdC (gd4 m41_20 m41_21 m41_22 m2_15 m41_23)
theorem ggX11_compare_X1_takenByOther : GoodIn wsX11_compare wsX1_takenByOther := gdC (gd1 m54_2)
theorem gX11_compare_X1_takenByOther : GoodIn wsX11_compare (wsV RX11 236 RX1 yX1_takenByOther wsX1_takenByOther) := gdC (gd4 m53_23 m54_0 m54_1 m2_15 m54_2)
theorem ggX11_compare_X11_codesAgainst : GoodIn wsX11_compare wsX11_codesAgainst := gdC (gd1 m54_5)
theorem gX11_compare_X11_codesAgainst : GoodIn wsX11_compare (va_wsS RX11 239 yX11_codesAgainst wsX11_codesAgainst) := gdC (gd3 m54_3 m54_4 m1_2 m54_5)
theorem ggX11_compare_X4_codes : GoodIn wsX11_compare wsX4_codes := gdC (gd1 m54_9)
theorem gX11_compare_X4_codes : GoodIn wsX11_compare (wsV RX11 243 RX4 yX4_codes wsX4_codes) := gdC (gd4 m54_6 m54_7 m54_8 m2_12 m54_9)
theorem dX11_compare_0 : decode cX11_compare 0 = .ok (.iload_n 1, 1) := by decide +kernel
theorem dX11_compare_1 : decode cX11_compare 1 = .ok (.ifCond .lt 8, 3) := by decide +kernel
theorem dX11_compare_4 : decode cX11_compare 4 = .ok (.iload_n 1, 1) := by decide +kernel
theorem dX11_compare_5 : decode cX11_compare 5 = .ok (.iconst 4, 1) := by decide +kernel
theorem dX11_compare_6 : decode cX11_compare 6 = .ok (.if_icmp .le 6, 3) := by decide +kernel
theorem dX11_compare_9 : decode cX11_compare 9 = .ok (.bipush (-3), 2) := by decide +kernel
theorem dX11_compare_11 : decode cX11_compare 11 = .ok (.ireturn, 1) := by decide +kernel
theorem dX11_compare_12 : decode cX11_compare 12 = .ok (.aload_n 0, 1) := by decide +kernel
theorem dX11_compare_13 : decode cX11_compare 13 = .ok (.getfield 64, 3) := by decide +kernel
theorem dX11_compare_16 : decode cX11_compare 16 = .ok (.invokevirtual 195, 3) := by decide +kernel
theorem dX11_compare_19 : decode cX11_compare 19 = .ok (.ifCond .eq 6, 3) := by decide +kernel
theorem dX11_compare_22 : decode cX11_compare 22 = .ok (.bipush (-6), 2) := by decide +kernel
theorem dX11_compare_24 : decode cX11_compare 24 = .ok (.ireturn, 1) := by decide +kernel
theorem dX11_compare_25 : decode cX11_compare 25 = .ok (.aload_n 0, 1) := by decide +kernel
theorem dX11_compare_26 : decode cX11_compare 26 = .ok (.getfield 64, 3) := by decide +kernel
theorem dX11_compare_29 : decode cX11_compare 29 = .ok (.invokevirtual 207, 3) := by decide +kernel
theorem dX11_compare_32 : decode cX11_compare 32 = .ok (.astore_n 2, 1) := by decide +kernel
theorem dX11_compare_33 : decode cX11_compare 33 = .ok (.iload_n 1, 1) := by decide +kernel
theorem dX11_compare_34 : decode cX11_compare 34 = .ok (.aload_n 2, 1) := by decide +kernel
theorem dX11_compare_35 : decode cX11_compare 35 = .ok (.invokevirtual 211, 3) := by decide +kernel
theorem dX11_compare_38 : decode cX11_compare 38 = .ok (.aload_n 2, 1) := by decide +kernel
theorem dX11_compare_39 : decode cX11_compare 39 = .ok (.invokevirtual 236, 3) := by decide +kernel
theorem dX11_compare_42 : decode cX11_compare 42 = .ok (.invokestatic 239, 3) := by decide +kernel
theorem dX11_compare_45 : decode cX11_compare 45 = .ok (.lstore_n 3, 1) := by decide +kernel
theorem dX11_compare_46 : decode cX11_compare 46 = .ok (.aload_n 0, 1) := by decide +kernel
theorem dX11_compare_47 : decode cX11_compare 47 = .ok (.getfield 64, 3) := by decide +kernel
theorem dX11_compare_50 : decode cX11_compare 50 = .ok (.invokevirtual 243, 3) := by decide +kernel
theorem dX11_compare_53 : decode cX11_compare 53 = .ok (.lload_n 3, 1) := by decide +kernel
theorem dX11_compare_54 : decode cX11_compare 54 = .ok (.land, 1) := by decide +kernel
theorem dX11_compare_55 : decode cX11_compare 55 = .ok (.lconst 0, 1) := by decide +kernel
theorem dX11_compare_56 : decode cX11_compare 56 = .ok (.lcmp, 1) := by decide +kernel
theorem dX11_compare_57 : decode cX11_compare 57 = .ok (.ifCond .ne 7, 3) := by decide +kernel
theorem dX11_compare_60 : decode cX11_compare 60 = .ok (.iconst 1, 1) := by decide +kernel
theorem dX11_compare_61 : decode cX11_compare 61 = .ok (.goto 4, 3) := by decide +kernel
theorem dX11_compare_64 : decode cX11_compare 64 = .ok (.iconst 0, 1) := by decide +kernel
theorem dX11_compare_65 : decode cX11_compare 65 = .ok (.ireturn, 1) := by decide +kernel
theorem ggX11_parted_X4_areSpent : GoodIn wsX11_parted wsX4_areSpent := gdC (gd1 m34_13)
theorem gX11_parted_X4_areSpent : GoodIn wsX11_parted (wsV RX11 195 RX4 yX4_areSpent wsX4_areSpent) := gdC (gd4 m34_10 m34_11 m34_12 m2_12 m34_13)
theorem ggX11_parted_X4_held : GoodIn wsX11_parted wsX4_held := gdC (gd1 m7_11)
theorem gX11_parted_X4_held : GoodIn wsX11_parted (wsV RX11 207 RX4 yX4_held wsX4_held) := gdC (gd4 m41_19 m7_9 m7_10 m2_12 m7_11)
theorem ggX11_parted_X1_takenByOne : GoodIn wsX11_parted wsX1_takenByOne := gdC (gd1 m41_23)
theorem gX11_parted_X1_takenByOne : GoodIn wsX11_parted (wsV RX11 211 RX1 yX1_takenByOne wsX1_takenByOne) := gdC (gd4 m41_20 m41_21 m41_22 m2_15 m41_23)
theorem ggX11_parted_X1_takenByOther : GoodIn wsX11_parted wsX1_takenByOther := gdC (gd1 m54_2)
theorem gX11_parted_X1_takenByOther : GoodIn wsX11_parted (wsV RX11 236 RX1 yX1_takenByOther wsX1_takenByOther) := gdC (gd4 m53_23 m54_0 m54_1 m2_15 m54_2)
theorem ggX11_parted_X2_least : GoodIn wsX11_parted wsX2_least := gdC (gd1 m42_5)
theorem gX11_parted_X2_least : GoodIn wsX11_parted (wsV RX11 215 RX2 yX2_least wsX2_least) := gdC (gd4 m42_2 m42_3 m42_4 m2_21 m42_5)
theorem dX11_parted_0 : decode cX11_parted 0 = .ok (.aload_n 0, 1) := by decide +kernel
theorem dX11_parted_1 : decode cX11_parted 1 = .ok (.getfield 64, 3) := by decide +kernel
theorem dX11_parted_4 : decode cX11_parted 4 = .ok (.invokevirtual 195, 3) := by decide +kernel
theorem dX11_parted_7 : decode cX11_parted 7 = .ok (.ifCond .eq 6, 3) := by decide +kernel
theorem dX11_parted_10 : decode cX11_parted 10 = .ok (.bipush (-6), 2) := by decide +kernel
theorem dX11_parted_12 : decode cX11_parted 12 = .ok (.ireturn, 1) := by decide +kernel
theorem dX11_parted_13 : decode cX11_parted 13 = .ok (.aload_n 0, 1) := by decide +kernel
theorem dX11_parted_14 : decode cX11_parted 14 = .ok (.getfield 64, 3) := by decide +kernel
theorem dX11_parted_17 : decode cX11_parted 17 = .ok (.invokevirtual 207, 3) := by decide +kernel
theorem dX11_parted_20 : decode cX11_parted 20 = .ok (.astore_n 1, 1) := by decide +kernel
theorem dX11_parted_21 : decode cX11_parted 21 = .ok (.aload_n 0, 1) := by decide +kernel
theorem dX11_parted_22 : decode cX11_parted 22 = .ok (.getfield 79, 3) := by decide +kernel
theorem dX11_parted_25 : decode cX11_parted 25 = .ok (.aload_n 1, 1) := by decide +kernel
theorem dX11_parted_26 : decode cX11_parted 26 = .ok (.invokevirtual 211, 3) := by decide +kernel
theorem dX11_parted_29 : decode cX11_parted 29 = .ok (.aload_n 1, 1) := by decide +kernel
theorem dX11_parted_30 : decode cX11_parted 30 = .ok (.invokevirtual 236, 3) := by decide +kernel
theorem dX11_parted_33 : decode cX11_parted 33 = .ok (.lxor, 1) := by decide +kernel
theorem dX11_parted_34 : decode cX11_parted 34 = .ok (.invokevirtual 215, 3) := by decide +kernel
theorem dX11_parted_37 : decode cX11_parted 37 = .ok (.ireturn, 1) := by decide +kernel
theorem ggX11_both_X4_areSpent : GoodIn wsX11_both wsX4_areSpent := gdC (gd1 m34_13)
theorem gX11_both_X4_areSpent : GoodIn wsX11_both (wsV RX11 195 RX4 yX4_areSpent wsX4_areSpent) := gdC (gd4 m34_10 m34_11 m34_12 m2_12 m34_13)
theorem ggX11_both_X4_held : GoodIn wsX11_both wsX4_held := gdC (gd1 m7_11)
theorem gX11_both_X4_held : GoodIn wsX11_both (wsV RX11 207 RX4 yX4_held wsX4_held) := gdC (gd4 m41_19 m7_9 m7_10 m2_12 m7_11)
theorem ggX11_both_X1_takenByOne : GoodIn wsX11_both wsX1_takenByOne := gdC (gd1 m41_23)
theorem gX11_both_X1_takenByOne : GoodIn wsX11_both (wsV RX11 211 RX1 yX1_takenByOne wsX1_takenByOne) := gdC (gd4 m41_20 m41_21 m41_22 m2_15 m41_23)
theorem ggX11_both_X1_takenByOther : GoodIn wsX11_both wsX1_takenByOther := gdC (gd1 m54_2)
theorem gX11_both_X1_takenByOther : GoodIn wsX11_both (wsV RX11 236 RX1 yX1_takenByOther wsX1_takenByOther) := gdC (gd4 m53_23 m54_0 m54_1 m2_15 m54_2)
theorem ggX11_both_X2_least : GoodIn wsX11_both wsX2_least := gdC (gd1 m42_5)
theorem gX11_both_X2_least : GoodIn wsX11_both (wsV RX11 215 RX2 yX2_least wsX2_least) := gdC (gd4 m42_2 m42_3 m42_4 m2_21 m42_5)
theorem dX11_both_0 : decode cX11_both 0 = .ok (.aload_n 0, 1) := by decide +kernel
theorem dX11_both_1 : decode cX11_both 1 = .ok (.getfield 64, 3) := by decide +kernel
theorem dX11_both_4 : decode cX11_both 4 = .ok (.invokevirtual 195, 3) := by decide +kernel
theorem dX11_both_7 : decode cX11_both 7 = .ok (.ifCond .eq 6, 3) := by decide +kernel
theorem dX11_both_10 : decode cX11_both 10 = .ok (.bipush (-6), 2) := by decide +kernel
theorem dX11_both_12 : decode cX11_both 12 = .ok (.ireturn, 1) := by decide +kernel
theorem dX11_both_13 : decode cX11_both 13 = .ok (.aload_n 0, 1) := by decide +kernel
theorem dX11_both_14 : decode cX11_both 14 = .ok (.getfield 64, 3) := by decide +kernel
theorem dX11_both_17 : decode cX11_both 17 = .ok (.invokevirtual 207, 3) := by decide +kernel
theorem dX11_both_20 : decode cX11_both 20 = .ok (.astore_n 1, 1) := by decide +kernel
theorem dX11_both_21 : decode cX11_both 21 = .ok (.aload_n 0, 1) := by decide +kernel
theorem dX11_both_22 : decode cX11_both 22 = .ok (.getfield 79, 3) := by decide +kernel
theorem dX11_both_25 : decode cX11_both 25 = .ok (.aload_n 1, 1) := by decide +kernel
theorem dX11_both_26 : decode cX11_both 26 = .ok (.invokevirtual 211, 3) := by decide +kernel
theorem dX11_both_29 : decode cX11_both 29 = .ok (.aload_n 1, 1) := by decide +kernel
theorem dX11_both_30 : decode cX11_both 30 = .ok (.invokevirtual 236, 3) := by decide +kernel
theorem dX11_both_33 : decode cX11_both 33 = .ok (.land, 1) := by decide +kernel
theorem dX11_both_34 : decode cX11_both 34 = .ok (.invokevirtual 215, 3) := by decide +kernel
theorem dX11_both_37 : decode cX11_both 37 = .ok (.ireturn, 1) := by decide +kernel
theorem ggX11_count_X6_size : GoodIn wsX11_count wsX6_size := gdC (gd1 m23_5)
theorem gX11_count_X6_size : GoodIn wsX11_count (wsV RX11 151 RX6 yX6_size wsX6_size) := gdC (gd4 m23_2 m23_3 m23_4 m2_0 m23_5)
theorem ggX11_count_X8_size : GoodIn wsX11_count wsX8_size := gdC (gd1 m11_14)
theorem gX11_count_X8_size : GoodIn wsX11_count (wsV RX11 116 RX8 yX8_size wsX8_size) := gdC (gd4 m11_11 m11_12 m11_13 m1_20 m11_14)
theorem ggX11_count_X5_moveCount : GoodIn wsX11_count wsX5_moveCount := gdC (gd1 m20_0)
theorem gX11_count_X5_moveCount : GoodIn wsX11_count (wsV RX11 133 RX5 yX5_moveCount wsX5_moveCount) := gdC (gd4 m19_21 m19_22 m19_23 m1_15 m20_0)
theorem dX11_count_0 : decode cX11_count 0 = .ok (.iload_n 1, 1) := by decide +kernel
theorem dX11_count_1 : decode cX11_count 1 = .ok (.tableswitch 63 0 3 #[31, 39, 47, 55], 31) := by decide +kernel
theorem dX11_count_32 : decode cX11_count 32 = .ok (.aload_n 0, 1) := by decide +kernel
theorem dX11_count_33 : decode cX11_count 33 = .ok (.getfield 29, 3) := by decide +kernel
theorem dX11_count_36 : decode cX11_count 36 = .ok (.invokevirtual 151, 3) := by decide +kernel
theorem dX11_count_39 : decode cX11_count 39 = .ok (.ireturn, 1) := by decide +kernel
theorem dX11_count_40 : decode cX11_count 40 = .ok (.aload_n 0, 1) := by decide +kernel
theorem dX11_count_41 : decode cX11_count 41 = .ok (.getfield 22, 3) := by decide +kernel
theorem dX11_count_44 : decode cX11_count 44 = .ok (.invokevirtual 116, 3) := by decide +kernel
theorem dX11_count_47 : decode cX11_count 47 = .ok (.ireturn, 1) := by decide +kernel
theorem dX11_count_48 : decode cX11_count 48 = .ok (.aload_n 0, 1) := by decide +kernel
theorem dX11_count_49 : decode cX11_count 49 = .ok (.getfield 10, 3) := by decide +kernel
theorem dX11_count_52 : decode cX11_count 52 = .ok (.invokevirtual 133, 3) := by decide +kernel
theorem dX11_count_55 : decode cX11_count 55 = .ok (.ireturn, 1) := by decide +kernel
theorem dX11_count_56 : decode cX11_count 56 = .ok (.aload_n 0, 1) := by decide +kernel
theorem dX11_count_57 : decode cX11_count 57 = .ok (.getfield 16, 3) := by decide +kernel
theorem dX11_count_60 : decode cX11_count 60 = .ok (.invokevirtual 133, 3) := by decide +kernel
theorem dX11_count_63 : decode cX11_count 63 = .ok (.ireturn, 1) := by decide +kernel
theorem dX11_count_64 : decode cX11_count 64 = .ok (.bipush (-3), 2) := by decide +kernel
theorem dX11_count_66 : decode cX11_count 66 = .ok (.ireturn, 1) := by decide +kernel
theorem dX11_codesAgainst_0 : decode cX11_codesAgainst 0 = .ok (.iload_n 0, 1) := by decide +kernel
theorem dX11_codesAgainst_1 : decode cX11_codesAgainst 1 = .ok (.tableswitch 55 0 3 #[31, 35, 43, 51], 31) := by decide +kernel
theorem dX11_codesAgainst_32 : decode cX11_codesAgainst 32 = .ok (.lload_n 1, 1) := by decide +kernel
theorem dX11_codesAgainst_33 : decode cX11_codesAgainst 33 = .ok (.lload_n 3, 1) := by decide +kernel
theorem dX11_codesAgainst_34 : decode cX11_codesAgainst 34 = .ok (.lxor, 1) := by decide +kernel
theorem dX11_codesAgainst_35 : decode cX11_codesAgainst 35 = .ok (.lreturn, 1) := by decide +kernel
theorem dX11_codesAgainst_36 : decode cX11_codesAgainst 36 = .ok (.lload_n 1, 1) := by decide +kernel
theorem dX11_codesAgainst_37 : decode cX11_codesAgainst 37 = .ok (.lload_n 3, 1) := by decide +kernel
theorem dX11_codesAgainst_38 : decode cX11_codesAgainst 38 = .ok (.ldc2_w 234, 3) := by decide +kernel
theorem dX11_codesAgainst_41 : decode cX11_codesAgainst 41 = .ok (.lxor, 1) := by decide +kernel
theorem dX11_codesAgainst_42 : decode cX11_codesAgainst 42 = .ok (.land, 1) := by decide +kernel
theorem dX11_codesAgainst_43 : decode cX11_codesAgainst 43 = .ok (.lreturn, 1) := by decide +kernel
theorem dX11_codesAgainst_44 : decode cX11_codesAgainst 44 = .ok (.lload_n 3, 1) := by decide +kernel
theorem dX11_codesAgainst_45 : decode cX11_codesAgainst 45 = .ok (.lload_n 1, 1) := by decide +kernel
theorem dX11_codesAgainst_46 : decode cX11_codesAgainst 46 = .ok (.ldc2_w 234, 3) := by decide +kernel
theorem dX11_codesAgainst_49 : decode cX11_codesAgainst 49 = .ok (.lxor, 1) := by decide +kernel
theorem dX11_codesAgainst_50 : decode cX11_codesAgainst 50 = .ok (.land, 1) := by decide +kernel
theorem dX11_codesAgainst_51 : decode cX11_codesAgainst 51 = .ok (.lreturn, 1) := by decide +kernel
theorem dX11_codesAgainst_52 : decode cX11_codesAgainst 52 = .ok (.lload_n 1, 1) := by decide +kernel
theorem dX11_codesAgainst_53 : decode cX11_codesAgainst 53 = .ok (.lload_n 3, 1) := by decide +kernel
theorem dX11_codesAgainst_54 : decode cX11_codesAgainst 54 = .ok (.land, 1) := by decide +kernel
theorem dX11_codesAgainst_55 : decode cX11_codesAgainst 55 = .ok (.lreturn, 1) := by decide +kernel
theorem dX11_codesAgainst_56 : decode cX11_codesAgainst 56 = .ok (.lload_n 1, 1) := by decide +kernel
theorem dX11_codesAgainst_57 : decode cX11_codesAgainst 57 = .ok (.lload_n 3, 1) := by decide +kernel
theorem dX11_codesAgainst_58 : decode cX11_codesAgainst 58 = .ok (.lor, 1) := by decide +kernel
theorem dX11_codesAgainst_59 : decode cX11_codesAgainst 59 = .ok (.ldc2_w 234, 3) := by decide +kernel
theorem dX11_codesAgainst_62 : decode cX11_codesAgainst 62 = .ok (.lxor, 1) := by decide +kernel
theorem dX11_codesAgainst_63 : decode cX11_codesAgainst 63 = .ok (.lreturn, 1) := by decide +kernel
theorem dX11_letterOf_0 : decode cX11_letterOf 0 = .ok (.lload_n 0, 1) := by decide +kernel
theorem dX11_letterOf_1 : decode cX11_letterOf 1 = .ok (.iconst 3, 1) := by decide +kernel
theorem dX11_letterOf_2 : decode cX11_letterOf 2 = .ok (.iload_n 2, 1) := by decide +kernel
theorem dX11_letterOf_3 : decode cX11_letterOf 3 = .ok (.imul, 1) := by decide +kernel
theorem dX11_letterOf_4 : decode cX11_letterOf 4 = .ok (.lshr, 1) := by decide +kernel
theorem dX11_letterOf_5 : decode cX11_letterOf 5 = .ok (.ldc2_w 246, 3) := by decide +kernel
theorem dX11_letterOf_8 : decode cX11_letterOf 8 = .ok (.land, 1) := by decide +kernel
theorem dX11_letterOf_9 : decode cX11_letterOf 9 = .ok (.l2i, 1) := by decide +kernel
theorem dX11_letterOf_10 : decode cX11_letterOf 10 = .ok (.ireturn, 1) := by decide +kernel
theorem dX11_isReader_0 : decode cX11_isReader 0 = .ok (.iload_n 0, 1) := by decide +kernel
theorem dX11_isReader_1 : decode cX11_isReader 1 = .ok (.ifCond .eq 8, 3) := by decide +kernel
theorem dX11_isReader_4 : decode cX11_isReader 4 = .ok (.iload_n 0, 1) := by decide +kernel
theorem dX11_isReader_5 : decode cX11_isReader 5 = .ok (.iconst 1, 1) := by decide +kernel
theorem dX11_isReader_6 : decode cX11_isReader 6 = .ok (.if_icmp .ne 7, 3) := by decide +kernel
theorem dX11_isReader_9 : decode cX11_isReader 9 = .ok (.iconst 1, 1) := by decide +kernel
theorem dX11_isReader_10 : decode cX11_isReader 10 = .ok (.goto 4, 3) := by decide +kernel
theorem dX11_isReader_13 : decode cX11_isReader 13 = .ok (.iconst 0, 1) := by decide +kernel
theorem dX11_isReader_14 : decode cX11_isReader 14 = .ok (.ireturn, 1) := by decide +kernel
theorem ggX11_isBehind_X6_size : GoodIn wsX11_isBehind wsX6_size := gdC (gd1 m23_5)
theorem gX11_isBehind_X6_size : GoodIn wsX11_isBehind (wsV RX11 151 RX6 yX6_size wsX6_size) := gdC (gd4 m23_2 m23_3 m23_4 m2_0 m23_5)
theorem dX11_isBehind_0 : decode cX11_isBehind 0 = .ok (.iload_n 1, 1) := by decide +kernel
theorem dX11_isBehind_1 : decode cX11_isBehind 1 = .ok (.ifCond .lt 18, 3) := by decide +kernel
theorem dX11_isBehind_4 : decode cX11_isBehind 4 = .ok (.iload_n 1, 1) := by decide +kernel
theorem dX11_isBehind_5 : decode cX11_isBehind 5 = .ok (.aload_n 0, 1) := by decide +kernel
theorem dX11_isBehind_6 : decode cX11_isBehind 6 = .ok (.getfield 29, 3) := by decide +kernel
theorem dX11_isBehind_9 : decode cX11_isBehind 9 = .ok (.invokevirtual 151, 3) := by decide +kernel
theorem dX11_isBehind_12 : decode cX11_isBehind 12 = .ok (.if_icmp .gt 7, 3) := by decide +kernel
theorem dX11_isBehind_15 : decode cX11_isBehind 15 = .ok (.iconst 1, 1) := by decide +kernel
theorem dX11_isBehind_16 : decode cX11_isBehind 16 = .ok (.goto 4, 3) := by decide +kernel
theorem dX11_isBehind_19 : decode cX11_isBehind 19 = .ok (.iconst 0, 1) := by decide +kernel
theorem dX11_isBehind_20 : decode cX11_isBehind 20 = .ok (.ireturn, 1) := by decide +kernel
theorem dX11_chosen_0 : decode cX11_chosen 0 = .ok (.iload_n 1, 1) := by decide +kernel
theorem dX11_chosen_1 : decode cX11_chosen 1 = .ok (.ifCond .ne 10, 3) := by decide +kernel
theorem dX11_chosen_4 : decode cX11_chosen 4 = .ok (.aload_n 0, 1) := by decide +kernel
theorem dX11_chosen_5 : decode cX11_chosen 5 = .ok (.getfield 10, 3) := by decide +kernel
theorem dX11_chosen_8 : decode cX11_chosen 8 = .ok (.goto 7, 3) := by decide +kernel
theorem dX11_chosen_11 : decode cX11_chosen 11 = .ok (.aload_n 0, 1) := by decide +kernel
theorem dX11_chosen_12 : decode cX11_chosen 12 = .ok (.getfield 16, 3) := by decide +kernel
theorem dX11_chosen_15 : decode cX11_chosen 15 = .ok (.areturn, 1) := by decide +kernel
theorem dX11_placesOf_0 : decode cX11_placesOf 0 = .ok (.iload_n 1, 1) := by decide +kernel
theorem dX11_placesOf_1 : decode cX11_placesOf 1 = .ok (.iconst 2, 1) := by decide +kernel
theorem dX11_placesOf_2 : decode cX11_placesOf 2 = .ok (.if_icmp .ne 8, 3) := by decide +kernel
theorem dX11_placesOf_5 : decode cX11_placesOf 5 = .ok (.aload_n 0, 1) := by decide +kernel
theorem dX11_placesOf_6 : decode cX11_placesOf 6 = .ok (.getfield 64, 3) := by decide +kernel
theorem dX11_placesOf_9 : decode cX11_placesOf 9 = .ok (.areturn, 1) := by decide +kernel
theorem dX11_placesOf_10 : decode cX11_placesOf 10 = .ok (.iload_n 1, 1) := by decide +kernel
theorem dX11_placesOf_11 : decode cX11_placesOf 11 = .ok (.ifCond .ne 10, 3) := by decide +kernel
theorem dX11_placesOf_14 : decode cX11_placesOf 14 = .ok (.aload_n 0, 1) := by decide +kernel
theorem dX11_placesOf_15 : decode cX11_placesOf 15 = .ok (.getfield 57, 3) := by decide +kernel
theorem dX11_placesOf_18 : decode cX11_placesOf 18 = .ok (.goto 7, 3) := by decide +kernel
theorem dX11_placesOf_21 : decode cX11_placesOf 21 = .ok (.aload_n 0, 1) := by decide +kernel
theorem dX11_placesOf_22 : decode cX11_placesOf 22 = .ok (.getfield 61, 3) := by decide +kernel
theorem dX11_placesOf_25 : decode cX11_placesOf 25 = .ok (.areturn, 1) := by decide +kernel
theorem dX11_lengthsOf_0 : decode cX11_lengthsOf 0 = .ok (.iload_n 1, 1) := by decide +kernel
theorem dX11_lengthsOf_1 : decode cX11_lengthsOf 1 = .ok (.ifCond .ne 10, 3) := by decide +kernel
theorem dX11_lengthsOf_4 : decode cX11_lengthsOf 4 = .ok (.aload_n 0, 1) := by decide +kernel
theorem dX11_lengthsOf_5 : decode cX11_lengthsOf 5 = .ok (.getfield 72, 3) := by decide +kernel
theorem dX11_lengthsOf_8 : decode cX11_lengthsOf 8 = .ok (.goto 7, 3) := by decide +kernel
theorem dX11_lengthsOf_11 : decode cX11_lengthsOf 11 = .ok (.aload_n 0, 1) := by decide +kernel
theorem dX11_lengthsOf_12 : decode cX11_lengthsOf 12 = .ok (.getfield 76, 3) := by decide +kernel
theorem dX11_lengthsOf_15 : decode cX11_lengthsOf 15 = .ok (.areturn, 1) := by decide +kernel
theorem dX11_listingOf_0 : decode cX11_listingOf 0 = .ok (.iload_n 1, 1) := by decide +kernel
theorem dX11_listingOf_1 : decode cX11_listingOf 1 = .ok (.ifCond .ne 10, 3) := by decide +kernel
theorem dX11_listingOf_4 : decode cX11_listingOf 4 = .ok (.aload_n 0, 1) := by decide +kernel
theorem dX11_listingOf_5 : decode cX11_listingOf 5 = .ok (.getfield 97, 3) := by decide +kernel
theorem dX11_listingOf_8 : decode cX11_listingOf 8 = .ok (.goto 7, 3) := by decide +kernel
theorem dX11_listingOf_11 : decode cX11_listingOf 11 = .ok (.aload_n 0, 1) := by decide +kernel
theorem dX11_listingOf_12 : decode cX11_listingOf 12 = .ok (.getfield 101, 3) := by decide +kernel
theorem dX11_listingOf_15 : decode cX11_listingOf 15 = .ok (.areturn, 1) := by decide +kernel
theorem ggX11_isAtOnePlace_X9_follow : GoodIn wsX11_isAtOnePlace wsX9_follow := gdC (gd1 m28_4)
theorem gX11_isAtOnePlace_X9_follow : GoodIn wsX11_isAtOnePlace (wsV RX11 174 RX9 yX9_follow wsX9_follow) := gdC (gd4 m28_1 m28_2 m28_3 m2_4 m28_4)
theorem ggX11_isAtOnePlace_X9_comeAt : GoodIn wsX11_isAtOnePlace wsX9_comeAt := gdC (gd1 m29_21)
theorem gX11_isAtOnePlace_X9_comeAt : GoodIn wsX11_isAtOnePlace (wsV RX11 178 RX9 yX9_comeAt wsX9_comeAt) := gdC (gd4 m29_18 m29_19 m29_20 m2_4 m29_21)
theorem ggX11_isAtOnePlace_X9_sinceAt : GoodIn wsX11_isAtOnePlace wsX9_sinceAt := gdC (gd1 m33_21)
theorem gX11_isAtOnePlace_X9_sinceAt : GoodIn wsX11_isAtOnePlace (wsV RX11 188 RX9 yX9_sinceAt wsX9_sinceAt) := gdC (gd4 m33_18 m33_19 m33_20 m2_4 m33_21)
theorem dX11_isAtOnePlace_0 : decode cX11_isAtOnePlace 0 = .ok (.aload_n 0, 1) := by decide +kernel
theorem dX11_isAtOnePlace_1 : decode cX11_isAtOnePlace 1 = .ok (.getfield 36, 3) := by decide +kernel
theorem dX11_isAtOnePlace_4 : decode cX11_isAtOnePlace 4 = .ok (.aload_n 1, 1) := by decide +kernel
theorem dX11_isAtOnePlace_5 : decode cX11_isAtOnePlace 5 = .ok (.aload_n 0, 1) := by decide +kernel
theorem dX11_isAtOnePlace_6 : decode cX11_isAtOnePlace 6 = .ok (.getfield 29, 3) := by decide +kernel
theorem dX11_isAtOnePlace_9 : decode cX11_isAtOnePlace 9 = .ok (.iload_n 2, 1) := by decide +kernel
theorem dX11_isAtOnePlace_10 : decode cX11_isAtOnePlace 10 = .ok (.iload_n 3, 1) := by decide +kernel
theorem dX11_isAtOnePlace_11 : decode cX11_isAtOnePlace 11 = .ok (.invokestatic 248, 3) := by decide +kernel
theorem dX11_isAtOnePlace_14 : decode cX11_isAtOnePlace 14 = .ok (.invokevirtual 174, 3) := by decide +kernel
theorem dX11_isAtOnePlace_17 : decode cX11_isAtOnePlace 17 = .ok (.aload_n 0, 1) := by decide +kernel
theorem dX11_isAtOnePlace_18 : decode cX11_isAtOnePlace 18 = .ok (.getfield 36, 3) := by decide +kernel
theorem dX11_isAtOnePlace_21 : decode cX11_isAtOnePlace 21 = .ok (.iload_n 2, 1) := by decide +kernel
theorem dX11_isAtOnePlace_22 : decode cX11_isAtOnePlace 22 = .ok (.invokevirtual 178, 3) := by decide +kernel
theorem dX11_isAtOnePlace_25 : decode cX11_isAtOnePlace 25 = .ok (.aload_n 0, 1) := by decide +kernel
theorem dX11_isAtOnePlace_26 : decode cX11_isAtOnePlace 26 = .ok (.getfield 36, 3) := by decide +kernel
theorem dX11_isAtOnePlace_29 : decode cX11_isAtOnePlace 29 = .ok (.iload_n 3, 1) := by decide +kernel
theorem dX11_isAtOnePlace_30 : decode cX11_isAtOnePlace 30 = .ok (.invokevirtual 178, 3) := by decide +kernel
theorem dX11_isAtOnePlace_33 : decode cX11_isAtOnePlace 33 = .ok (.if_icmp .ne 26, 3) := by decide +kernel
theorem dX11_isAtOnePlace_36 : decode cX11_isAtOnePlace 36 = .ok (.aload_n 0, 1) := by decide +kernel
theorem dX11_isAtOnePlace_37 : decode cX11_isAtOnePlace 37 = .ok (.getfield 36, 3) := by decide +kernel
theorem dX11_isAtOnePlace_40 : decode cX11_isAtOnePlace 40 = .ok (.iload_n 2, 1) := by decide +kernel
theorem dX11_isAtOnePlace_41 : decode cX11_isAtOnePlace 41 = .ok (.invokevirtual 188, 3) := by decide +kernel
theorem dX11_isAtOnePlace_44 : decode cX11_isAtOnePlace 44 = .ok (.aload_n 0, 1) := by decide +kernel
theorem dX11_isAtOnePlace_45 : decode cX11_isAtOnePlace 45 = .ok (.getfield 36, 3) := by decide +kernel
theorem dX11_isAtOnePlace_48 : decode cX11_isAtOnePlace 48 = .ok (.iload_n 3, 1) := by decide +kernel
theorem dX11_isAtOnePlace_49 : decode cX11_isAtOnePlace 49 = .ok (.invokevirtual 188, 3) := by decide +kernel
theorem dX11_isAtOnePlace_52 : decode cX11_isAtOnePlace 52 = .ok (.if_icmp .ne 7, 3) := by decide +kernel
theorem dX11_isAtOnePlace_55 : decode cX11_isAtOnePlace 55 = .ok (.iconst 1, 1) := by decide +kernel
theorem dX11_isAtOnePlace_56 : decode cX11_isAtOnePlace 56 = .ok (.goto 4, 3) := by decide +kernel
theorem dX11_isAtOnePlace_59 : decode cX11_isAtOnePlace 59 = .ok (.iconst 0, 1) := by decide +kernel
theorem dX11_isAtOnePlace_60 : decode cX11_isAtOnePlace 60 = .ok (.ireturn, 1) := by decide +kernel
