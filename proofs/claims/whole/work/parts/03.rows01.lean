theorem dX2_shortenCodes_19 : decode cX2_shortenCodes 19 = .ok (.aload_n 0, 1) := by decide +kernel
theorem dX2_shortenCodes_20 : decode cX2_shortenCodes 20 = .ok (.getfield 42, 3) := by decide +kernel
theorem dX2_shortenCodes_23 : decode cX2_shortenCodes 23 = .ok (.iload_n 3, 1) := by decide +kernel
theorem dX2_shortenCodes_24 : decode cX2_shortenCodes 24 = .ok (.iaload, 1) := by decide +kernel
theorem dX2_shortenCodes_25 : decode cX2_shortenCodes 25 = .ok (.aload_n 0, 1) := by decide +kernel
theorem dX2_shortenCodes_26 : decode cX2_shortenCodes 26 = .ok (.getfield 45, 3) := by decide +kernel
theorem dX2_shortenCodes_29 : decode cX2_shortenCodes 29 = .ok (.iload_n 3, 1) := by decide +kernel
theorem dX2_shortenCodes_30 : decode cX2_shortenCodes 30 = .ok (.iaload, 1) := by decide +kernel
theorem dX2_shortenCodes_31 : decode cX2_shortenCodes 31 = .ok (.invokestatic 52, 3) := by decide +kernel
theorem dX2_shortenCodes_34 : decode cX2_shortenCodes 34 = .ok (.istore 4, 2) := by decide +kernel
theorem dX2_shortenCodes_36 : decode cX2_shortenCodes 36 = .ok (.iconst 0, 1) := by decide +kernel
theorem dX2_shortenCodes_37 : decode cX2_shortenCodes 37 = .ok (.istore 5, 2) := by decide +kernel
theorem dX2_shortenCodes_39 : decode cX2_shortenCodes 39 = .ok (.iload 5, 2) := by decide +kernel
theorem dX2_shortenCodes_41 : decode cX2_shortenCodes 41 = .ok (.aload_n 1, 1) := by decide +kernel
theorem dX2_shortenCodes_42 : decode cX2_shortenCodes 42 = .ok (.invokevirtual 93, 3) := by decide +kernel
theorem dX2_shortenCodes_45 : decode cX2_shortenCodes 45 = .ok (.if_icmp .ge 80, 3) := by decide +kernel
theorem dX2_shortenCodes_48 : decode cX2_shortenCodes 48 = .ok (.iload 4, 2) := by decide +kernel
theorem dX2_shortenCodes_50 : decode cX2_shortenCodes 50 = .ok (.ldc 51, 2) := by decide +kernel
theorem dX2_shortenCodes_52 : decode cX2_shortenCodes 52 = .ok (.if_icmp .ge 73, 3) := by decide +kernel
theorem dX2_shortenCodes_55 : decode cX2_shortenCodes 55 = .ok (.aload_n 0, 1) := by decide +kernel
theorem dX2_shortenCodes_56 : decode cX2_shortenCodes 56 = .ok (.getfield 26, 3) := by decide +kernel
theorem dX2_shortenCodes_59 : decode cX2_shortenCodes 59 = .ok (.iload_n 3, 1) := by decide +kernel
theorem dX2_shortenCodes_60 : decode cX2_shortenCodes 60 = .ok (.aload_n 1, 1) := by decide +kernel
theorem dX2_shortenCodes_61 : decode cX2_shortenCodes 61 = .ok (.iload 5, 2) := by decide +kernel
theorem dX2_shortenCodes_63 : decode cX2_shortenCodes 63 = .ok (.invokevirtual 99, 3) := by decide +kernel
theorem dX2_shortenCodes_66 : decode cX2_shortenCodes 66 = .ok (.invokevirtual 102, 3) := by decide +kernel
theorem dX2_shortenCodes_69 : decode cX2_shortenCodes 69 = .ok (.istore 6, 2) := by decide +kernel
theorem dX2_shortenCodes_71 : decode cX2_shortenCodes 71 = .ok (.aload_n 0, 1) := by decide +kernel
theorem dX2_shortenCodes_72 : decode cX2_shortenCodes 72 = .ok (.aload_n 0, 1) := by decide +kernel
theorem dX2_shortenCodes_73 : decode cX2_shortenCodes 73 = .ok (.getfield 42, 3) := by decide +kernel
theorem dX2_shortenCodes_76 : decode cX2_shortenCodes 76 = .ok (.iload 6, 2) := by decide +kernel
theorem dX2_shortenCodes_78 : decode cX2_shortenCodes 78 = .ok (.aload_n 0, 1) := by decide +kernel
theorem dX2_shortenCodes_79 : decode cX2_shortenCodes 79 = .ok (.getfield 42, 3) := by decide +kernel
theorem dX2_shortenCodes_82 : decode cX2_shortenCodes 82 = .ok (.iload_n 3, 1) := by decide +kernel
theorem dX2_shortenCodes_83 : decode cX2_shortenCodes 83 = .ok (.iaload, 1) := by decide +kernel
theorem dX2_shortenCodes_84 : decode cX2_shortenCodes 84 = .ok (.aload_n 0, 1) := by decide +kernel
theorem dX2_shortenCodes_85 : decode cX2_shortenCodes 85 = .ok (.getfield 15, 3) := by decide +kernel
theorem dX2_shortenCodes_88 : decode cX2_shortenCodes 88 = .ok (.iload 5, 2) := by decide +kernel
theorem dX2_shortenCodes_90 : decode cX2_shortenCodes 90 = .ok (.iaload, 1) := by decide +kernel
theorem dX2_shortenCodes_91 : decode cX2_shortenCodes 91 = .ok (.iadd, 1) := by decide +kernel
theorem dX2_shortenCodes_92 : decode cX2_shortenCodes 92 = .ok (.invokevirtual 67, 3) := by decide +kernel
theorem dX2_shortenCodes_95 : decode cX2_shortenCodes 95 = .ok (.aload_n 0, 1) := by decide +kernel
theorem dX2_shortenCodes_96 : decode cX2_shortenCodes 96 = .ok (.aload_n 0, 1) := by decide +kernel
theorem dX2_shortenCodes_97 : decode cX2_shortenCodes 97 = .ok (.getfield 45, 3) := by decide +kernel
theorem dX2_shortenCodes_100 : decode cX2_shortenCodes 100 = .ok (.iload 6, 2) := by decide +kernel
theorem dX2_shortenCodes_102 : decode cX2_shortenCodes 102 = .ok (.aload_n 0, 1) := by decide +kernel
theorem dX2_shortenCodes_103 : decode cX2_shortenCodes 103 = .ok (.getfield 45, 3) := by decide +kernel
theorem dX2_shortenCodes_106 : decode cX2_shortenCodes 106 = .ok (.iload_n 3, 1) := by decide +kernel
theorem dX2_shortenCodes_107 : decode cX2_shortenCodes 107 = .ok (.iaload, 1) := by decide +kernel
theorem dX2_shortenCodes_108 : decode cX2_shortenCodes 108 = .ok (.aload_n 0, 1) := by decide +kernel
theorem dX2_shortenCodes_109 : decode cX2_shortenCodes 109 = .ok (.getfield 15, 3) := by decide +kernel
theorem dX2_shortenCodes_112 : decode cX2_shortenCodes 112 = .ok (.iload 5, 2) := by decide +kernel
theorem dX2_shortenCodes_114 : decode cX2_shortenCodes 114 = .ok (.iaload, 1) := by decide +kernel
theorem dX2_shortenCodes_115 : decode cX2_shortenCodes 115 = .ok (.iadd, 1) := by decide +kernel
theorem dX2_shortenCodes_116 : decode cX2_shortenCodes 116 = .ok (.invokevirtual 67, 3) := by decide +kernel
theorem dX2_shortenCodes_119 : decode cX2_shortenCodes 119 = .ok (.iinc 5 1, 3) := by decide +kernel
theorem dX2_shortenCodes_122 : decode cX2_shortenCodes 122 = .ok (.goto (-83), 3) := by decide +kernel
theorem dX2_shortenCodes_125 : decode cX2_shortenCodes 125 = .ok (.iconst 0, 1) := by decide +kernel
theorem dX2_shortenCodes_126 : decode cX2_shortenCodes 126 = .ok (.istore 5, 2) := by decide +kernel
theorem dX2_shortenCodes_128 : decode cX2_shortenCodes 128 = .ok (.iload 5, 2) := by decide +kernel
theorem dX2_shortenCodes_130 : decode cX2_shortenCodes 130 = .ok (.iconst 2, 1) := by decide +kernel
theorem dX2_shortenCodes_131 : decode cX2_shortenCodes 131 = .ok (.if_icmp .ge 62, 3) := by decide +kernel
theorem dX2_shortenCodes_134 : decode cX2_shortenCodes 134 = .ok (.iload 4, 2) := by decide +kernel
theorem dX2_shortenCodes_136 : decode cX2_shortenCodes 136 = .ok (.ldc 51, 2) := by decide +kernel
theorem dX2_shortenCodes_138 : decode cX2_shortenCodes 138 = .ok (.if_icmp .ge 55, 3) := by decide +kernel
theorem dX2_shortenCodes_141 : decode cX2_shortenCodes 141 = .ok (.aload_n 0, 1) := by decide +kernel
theorem dX2_shortenCodes_142 : decode cX2_shortenCodes 142 = .ok (.aload_n 0, 1) := by decide +kernel
theorem dX2_shortenCodes_143 : decode cX2_shortenCodes 143 = .ok (.getfield 42, 3) := by decide +kernel
theorem dX2_shortenCodes_146 : decode cX2_shortenCodes 146 = .ok (.aload_n 2, 1) := by decide +kernel
theorem dX2_shortenCodes_147 : decode cX2_shortenCodes 147 = .ok (.iconst 4, 1) := by decide +kernel
theorem dX2_shortenCodes_148 : decode cX2_shortenCodes 148 = .ok (.iload 5, 2) := by decide +kernel
theorem dX2_shortenCodes_150 : decode cX2_shortenCodes 150 = .ok (.iadd, 1) := by decide +kernel
theorem dX2_shortenCodes_151 : decode cX2_shortenCodes 151 = .ok (.iload_n 3, 1) := by decide +kernel
theorem dX2_shortenCodes_152 : decode cX2_shortenCodes 152 = .ok (.invokevirtual 105, 3) := by decide +kernel
theorem dX2_shortenCodes_155 : decode cX2_shortenCodes 155 = .ok (.aload_n 0, 1) := by decide +kernel
theorem dX2_shortenCodes_156 : decode cX2_shortenCodes 156 = .ok (.getfield 42, 3) := by decide +kernel
theorem dX2_shortenCodes_159 : decode cX2_shortenCodes 159 = .ok (.iload_n 3, 1) := by decide +kernel
theorem dX2_shortenCodes_160 : decode cX2_shortenCodes 160 = .ok (.iaload, 1) := by decide +kernel
theorem dX2_shortenCodes_161 : decode cX2_shortenCodes 161 = .ok (.iconst 1, 1) := by decide +kernel
theorem dX2_shortenCodes_162 : decode cX2_shortenCodes 162 = .ok (.iadd, 1) := by decide +kernel
theorem dX2_shortenCodes_163 : decode cX2_shortenCodes 163 = .ok (.invokevirtual 67, 3) := by decide +kernel
theorem dX2_shortenCodes_166 : decode cX2_shortenCodes 166 = .ok (.aload_n 0, 1) := by decide +kernel
theorem dX2_shortenCodes_167 : decode cX2_shortenCodes 167 = .ok (.aload_n 0, 1) := by decide +kernel
theorem dX2_shortenCodes_168 : decode cX2_shortenCodes 168 = .ok (.getfield 45, 3) := by decide +kernel
theorem dX2_shortenCodes_171 : decode cX2_shortenCodes 171 = .ok (.aload_n 2, 1) := by decide +kernel
theorem dX2_shortenCodes_172 : decode cX2_shortenCodes 172 = .ok (.iconst 0, 1) := by decide +kernel
theorem dX2_shortenCodes_173 : decode cX2_shortenCodes 173 = .ok (.iload 5, 2) := by decide +kernel
theorem dX2_shortenCodes_175 : decode cX2_shortenCodes 175 = .ok (.iadd, 1) := by decide +kernel
theorem dX2_shortenCodes_176 : decode cX2_shortenCodes 176 = .ok (.iload_n 3, 1) := by decide +kernel
theorem dX2_shortenCodes_177 : decode cX2_shortenCodes 177 = .ok (.invokevirtual 105, 3) := by decide +kernel
theorem dX2_shortenCodes_180 : decode cX2_shortenCodes 180 = .ok (.iload 4, 2) := by decide +kernel
theorem dX2_shortenCodes_182 : decode cX2_shortenCodes 182 = .ok (.iconst 1, 1) := by decide +kernel
theorem dX2_shortenCodes_183 : decode cX2_shortenCodes 183 = .ok (.iadd, 1) := by decide +kernel
theorem dX2_shortenCodes_184 : decode cX2_shortenCodes 184 = .ok (.invokevirtual 67, 3) := by decide +kernel
theorem dX2_shortenCodes_187 : decode cX2_shortenCodes 187 = .ok (.iinc 5 1, 3) := by decide +kernel
theorem dX2_shortenCodes_190 : decode cX2_shortenCodes 190 = .ok (.goto (-62), 3) := by decide +kernel
theorem dX2_shortenCodes_193 : decode cX2_shortenCodes 193 = .ok (.iinc 3 1, 3) := by decide +kernel
theorem dX2_shortenCodes_196 : decode cX2_shortenCodes 196 = .ok (.goto (-186), 3) := by decide +kernel
theorem dX2_shortenCodes_199 : decode cX2_shortenCodes 199 = .ok (.return_, 1) := by decide +kernel
theorem dX2_shorten_0 : decode cX2_shorten 0 = .ok (.iload_n 2, 1) := by decide +kernel
theorem dX2_shorten_1 : decode cX2_shorten 1 = .ok (.ifCond .lt 25, 3) := by decide +kernel
theorem dX2_shorten_4 : decode cX2_shorten 4 = .ok (.iload_n 2, 1) := by decide +kernel
theorem dX2_shorten_5 : decode cX2_shorten 5 = .ok (.aload_n 1, 1) := by decide +kernel
theorem dX2_shorten_6 : decode cX2_shorten 6 = .ok (.arraylength, 1) := by decide +kernel
theorem dX2_shorten_7 : decode cX2_shorten 7 = .ok (.if_icmp .ge 19, 3) := by decide +kernel
theorem dX2_shorten_10 : decode cX2_shorten 10 = .ok (.iload_n 3, 1) := by decide +kernel
theorem dX2_shorten_11 : decode cX2_shorten 11 = .ok (.aload_n 1, 1) := by decide +kernel
theorem dX2_shorten_12 : decode cX2_shorten 12 = .ok (.iload_n 2, 1) := by decide +kernel
theorem dX2_shorten_13 : decode cX2_shorten 13 = .ok (.iaload, 1) := by decide +kernel
theorem dX2_shorten_14 : decode cX2_shorten 14 = .ok (.if_icmp .ge 12, 3) := by decide +kernel
theorem dX2_shorten_17 : decode cX2_shorten 17 = .ok (.aload_n 1, 1) := by decide +kernel
theorem dX2_shorten_18 : decode cX2_shorten 18 = .ok (.iload_n 2, 1) := by decide +kernel
theorem dX2_shorten_19 : decode cX2_shorten 19 = .ok (.iload_n 3, 1) := by decide +kernel
theorem dX2_shorten_20 : decode cX2_shorten 20 = .ok (.iastore, 1) := by decide +kernel
theorem dX2_shorten_21 : decode cX2_shorten 21 = .ok (.aload_n 0, 1) := by decide +kernel
theorem dX2_shorten_22 : decode cX2_shorten 22 = .ok (.iconst 1, 1) := by decide +kernel
theorem dX2_shorten_23 : decode cX2_shorten 23 = .ok (.putfield 22, 3) := by decide +kernel
theorem dX2_shorten_26 : decode cX2_shorten 26 = .ok (.return_, 1) := by decide +kernel
set_option maxRecDepth 20000 in
theorem ggX3_init_X6_init : GoodIn wsX3_init wsX6_init := goodIn_r _ [19, 20, 2, 3, 21, 22, 23, 24, 31, 32, 33] (by decide +kernel) (by decide +kernel)
set_option maxRecDepth 20000 in
theorem gX3_init_X6_init_n11 : GoodIn wsX3_init (wsX6_init) := ggX3_init_X6_init
set_option maxRecDepth 20000 in
theorem ggX3_init_X9_init : GoodIn wsX3_init wsX9_init := goodIn_r _ [26, 27, 2, 3, 21, 28, 29, 30, 40, 41, 42] (by decide +kernel) (by decide +kernel)
set_option maxRecDepth 20000 in
theorem gX3_init_X9_init_n20 : GoodIn wsX3_init (wsX9_init) := ggX3_init_X9_init
theorem dX3_init_0 : decode cX3_init 0 = .ok (.aload_n 0, 1) := by decide +kernel
theorem dX3_init_1 : decode cX3_init 1 = .ok (.invokespecial 3, 3) := by decide +kernel
theorem dX3_init_4 : decode cX3_init 4 = .ok (.aload_n 0, 1) := by decide +kernel
theorem dX3_init_5 : decode cX3_init 5 = .ok (.new 9, 3) := by decide +kernel
theorem dX3_init_8 : decode cX3_init 8 = .ok (.dup, 1) := by decide +kernel
theorem dX3_init_9 : decode cX3_init 9 = .ok (.invokespecial 11, 3) := by decide +kernel
theorem dX3_init_12 : decode cX3_init 12 = .ok (.putfield 12, 3) := by decide +kernel
theorem dX3_init_15 : decode cX3_init 15 = .ok (.aload_n 0, 1) := by decide +kernel
theorem dX3_init_16 : decode cX3_init 16 = .ok (.new 18, 3) := by decide +kernel
theorem dX3_init_19 : decode cX3_init 19 = .ok (.dup, 1) := by decide +kernel
theorem dX3_init_20 : decode cX3_init 20 = .ok (.invokespecial 20, 3) := by decide +kernel
theorem dX3_init_23 : decode cX3_init 23 = .ok (.putfield 21, 3) := by decide +kernel
theorem dX3_init_26 : decode cX3_init 26 = .ok (.aload_n 0, 1) := by decide +kernel
theorem dX3_init_27 : decode cX3_init 27 = .ok (.sipush 150, 3) := by decide +kernel
theorem dX3_init_30 : decode cX3_init 30 = .ok (.newarray .long, 2) := by decide +kernel
theorem dX3_init_32 : decode cX3_init 32 = .ok (.putfield 25, 3) := by decide +kernel
theorem dX3_init_35 : decode cX3_init 35 = .ok (.aload_n 0, 1) := by decide +kernel
theorem dX3_init_36 : decode cX3_init 36 = .ok (.bipush 6, 2) := by decide +kernel
theorem dX3_init_38 : decode cX3_init 38 = .ok (.newarray .boolean, 2) := by decide +kernel
theorem dX3_init_40 : decode cX3_init 40 = .ok (.putfield 29, 3) := by decide +kernel
theorem dX3_init_43 : decode cX3_init 43 = .ok (.aload_n 0, 1) := by decide +kernel
theorem dX3_init_44 : decode cX3_init 44 = .ok (.iconst (-1), 1) := by decide +kernel
theorem dX3_init_45 : decode cX3_init 45 = .ok (.putfield 33, 3) := by decide +kernel
theorem dX3_init_48 : decode cX3_init 48 = .ok (.aload_n 0, 1) := by decide +kernel
theorem dX3_init_49 : decode cX3_init 49 = .ok (.aload_n 1, 1) := by decide +kernel
theorem dX3_init_50 : decode cX3_init 50 = .ok (.putfield 37, 3) := by decide +kernel
theorem dX3_init_53 : decode cX3_init 53 = .ok (.return_, 1) := by decide +kernel
set_option maxRecDepth 20000 in
theorem ggX3_letterAt_X3_forgetIfChanged : GoodIn wsX3_letterAt wsX3_forgetIfChanged := goodIn_r _ [9, 10, 4, 11, 1, 12, 13, 14, 15, 16, 17, 134, 135, 136, 137, 138, 139, 140, 141, 142, 143, 144] (by decide +kernel) (by decide +kernel)
set_option maxRecDepth 20000 in
theorem gX3_letterAt_X3_forgetIfChanged : GoodIn wsX3_letterAt (wsV RX3 41 RX3 yX3_forgetIfChanged wsX3_forgetIfChanged) := goodIn_app (goodIn_of _ (by decide +kernel)) ggX3_letterAt_X3_forgetIfChanged
set_option maxRecDepth 20000 in
theorem ggX3_letterAt_X6_cut : GoodIn wsX3_letterAt wsX6_cut := goodIn_r _ [22, 23, 145, 146, 147] (by decide +kernel) (by decide +kernel)
set_option maxRecDepth 20000 in
theorem gX3_letterAt_X6_cut : GoodIn wsX3_letterAt (wsV RX3 44 RX6 yX6_cut wsX6_cut) := goodIn_app (goodIn_of _ (by decide +kernel)) ggX3_letterAt_X6_cut
set_option maxRecDepth 20000 in
theorem ggX3_letterAt_X9_begin : GoodIn wsX3_letterAt wsX9_begin := goodIn_r _ [28, 29, 30, 31, 32, 33, 34, 15, 35, 36, 37, 38, 39, 148, 149, 150, 140, 141, 142, 143, 144] (by decide +kernel) (by decide +kernel)
set_option maxRecDepth 20000 in
theorem gX3_letterAt_X9_begin : GoodIn wsX3_letterAt (wsV RX3 48 RX9 yX9_begin wsX9_begin) := goodIn_app (goodIn_of _ (by decide +kernel)) ggX3_letterAt_X9_begin
set_option maxRecDepth 20000 in
theorem ggX3_letterAt_X3_grow : GoodIn wsX3_letterAt wsX3_grow := goodIn_r _ [42, 3, 4, 2, 43, 44, 45, 27, 46, 30, 47, 48, 49, 15, 50, 51, 52, 53, 54, 8, 55, 56, 11, 18, 19, 20, 21, 22, 23, 57, 58, 59, 60, 61, 62, 63, 64, 65, 66, 67, 68, 69, 70, 71, 72, 73, 74, 75, 76, 77, 78, 79, 80, 81, 82, 83, 84, 85, 86, 87, 31, 29, 88, 89, 90, 91, 92, 93, 94, 95, 96, 97, 98, 99, 100, 101, 102, 103, 104, 105, 106, 107, 108, 109, 110, 111, 112, 113, 114, 115, 116, 117, 118, 119, 40, 41, 134, 135, 136, 137, 138, 139, 148, 149, 150, 140, 141, 142, 143, 144, 145, 146, 147] (by decide +kernel) (by decide +kernel)
set_option maxRecDepth 20000 in
theorem gX3_letterAt_X3_grow : GoodIn wsX3_letterAt (va_wsS RX3 52 yX3_grow wsX3_grow) := goodIn_app (goodIn_of _ (by decide +kernel)) ggX3_letterAt_X3_grow
set_option maxRecDepth 20000 in
theorem ggX3_letterAt_X3_numberOf : GoodIn wsX3_letterAt wsX3_numberOf := goodIn_r _ [123, 56, 11, 124, 125, 126, 127, 128, 129, 130, 131, 132, 8, 133, 134, 135, 136, 137, 138, 139] (by decide +kernel) (by decide +kernel)
set_option maxRecDepth 20000 in
theorem gX3_letterAt_X3_numberOf : GoodIn wsX3_letterAt (wsV RX3 56 RX3 yX3_numberOf wsX3_numberOf) := goodIn_app (goodIn_of _ (by decide +kernel)) ggX3_letterAt_X3_numberOf
theorem dX3_letterAt_0 : decode cX3_letterAt 0 = .ok (.iload_n 1, 1) := by decide +kernel
theorem dX3_letterAt_1 : decode cX3_letterAt 1 = .ok (.ifCond .lt 17, 3) := by decide +kernel
theorem dX3_letterAt_4 : decode cX3_letterAt 4 = .ok (.iload_n 1, 1) := by decide +kernel
theorem dX3_letterAt_5 : decode cX3_letterAt 5 = .ok (.iconst 5, 1) := by decide +kernel
theorem dX3_letterAt_6 : decode cX3_letterAt 6 = .ok (.if_icmp .gt 12, 3) := by decide +kernel
theorem dX3_letterAt_9 : decode cX3_letterAt 9 = .ok (.iload_n 3, 1) := by decide +kernel
theorem dX3_letterAt_10 : decode cX3_letterAt 10 = .ok (.ifCond .lt 8, 3) := by decide +kernel
theorem dX3_letterAt_13 : decode cX3_letterAt 13 = .ok (.iload_n 3, 1) := by decide +kernel
theorem dX3_letterAt_14 : decode cX3_letterAt 14 = .ok (.iload_n 1, 1) := by decide +kernel
theorem dX3_letterAt_15 : decode cX3_letterAt 15 = .ok (.if_icmp .lt 5, 3) := by decide +kernel
theorem dX3_letterAt_18 : decode cX3_letterAt 18 = .ok (.iconst (-1), 1) := by decide +kernel
theorem dX3_letterAt_19 : decode cX3_letterAt 19 = .ok (.ireturn, 1) := by decide +kernel
theorem dX3_letterAt_20 : decode cX3_letterAt 20 = .ok (.aload_n 0, 1) := by decide +kernel
theorem dX3_letterAt_21 : decode cX3_letterAt 21 = .ok (.invokevirtual 41, 3) := by decide +kernel
theorem dX3_letterAt_24 : decode cX3_letterAt 24 = .ok (.aload_n 0, 1) := by decide +kernel
theorem dX3_letterAt_25 : decode cX3_letterAt 25 = .ok (.getfield 29, 3) := by decide +kernel
theorem dX3_letterAt_28 : decode cX3_letterAt 28 = .ok (.iload_n 1, 1) := by decide +kernel
theorem dX3_letterAt_29 : decode cX3_letterAt 29 = .ok (.baload, 1) := by decide +kernel
theorem dX3_letterAt_30 : decode cX3_letterAt 30 = .ok (.ifCond .ne 36, 3) := by decide +kernel
theorem dX3_letterAt_33 : decode cX3_letterAt 33 = .ok (.aload_n 0, 1) := by decide +kernel
theorem dX3_letterAt_34 : decode cX3_letterAt 34 = .ok (.getfield 29, 3) := by decide +kernel
theorem dX3_letterAt_37 : decode cX3_letterAt 37 = .ok (.iload_n 1, 1) := by decide +kernel
theorem dX3_letterAt_38 : decode cX3_letterAt 38 = .ok (.iconst 1, 1) := by decide +kernel
theorem dX3_letterAt_39 : decode cX3_letterAt 39 = .ok (.bastore, 1) := by decide +kernel
theorem dX3_letterAt_40 : decode cX3_letterAt 40 = .ok (.aload_n 0, 1) := by decide +kernel
theorem dX3_letterAt_41 : decode cX3_letterAt 41 = .ok (.getfield 12, 3) := by decide +kernel
theorem dX3_letterAt_44 : decode cX3_letterAt 44 = .ok (.iconst 0, 1) := by decide +kernel
theorem dX3_letterAt_45 : decode cX3_letterAt 45 = .ok (.invokevirtual 44, 3) := by decide +kernel
theorem dX3_letterAt_48 : decode cX3_letterAt 48 = .ok (.aload_n 0, 1) := by decide +kernel
theorem dX3_letterAt_49 : decode cX3_letterAt 49 = .ok (.getfield 21, 3) := by decide +kernel
theorem dX3_letterAt_52 : decode cX3_letterAt 52 = .ok (.aload_n 0, 1) := by decide +kernel
theorem dX3_letterAt_53 : decode cX3_letterAt 53 = .ok (.getfield 37, 3) := by decide +kernel
theorem dX3_letterAt_56 : decode cX3_letterAt 56 = .ok (.invokevirtual 48, 3) := by decide +kernel
theorem dX3_letterAt_59 : decode cX3_letterAt 59 = .ok (.aload_n 0, 1) := by decide +kernel
theorem dX3_letterAt_60 : decode cX3_letterAt 60 = .ok (.iconst 0, 1) := by decide +kernel
theorem dX3_letterAt_61 : decode cX3_letterAt 61 = .ok (.iconst 0, 1) := by decide +kernel
theorem dX3_letterAt_62 : decode cX3_letterAt 62 = .ok (.iload_n 1, 1) := by decide +kernel
theorem dX3_letterAt_63 : decode cX3_letterAt 63 = .ok (.invokestatic 52, 3) := by decide +kernel
theorem dX3_letterAt_66 : decode cX3_letterAt 66 = .ok (.aload_n 0, 1) := by decide +kernel
theorem dX3_letterAt_67 : decode cX3_letterAt 67 = .ok (.iload_n 1, 1) := by decide +kernel
theorem dX3_letterAt_68 : decode cX3_letterAt 68 = .ok (.iload_n 2, 1) := by decide +kernel
theorem dX3_letterAt_69 : decode cX3_letterAt 69 = .ok (.invokevirtual 56, 3) := by decide +kernel
theorem dX3_letterAt_72 : decode cX3_letterAt 72 = .ok (.istore 4, 2) := by decide +kernel
theorem dX3_letterAt_74 : decode cX3_letterAt 74 = .ok (.iload_n 1, 1) := by decide +kernel
theorem dX3_letterAt_75 : decode cX3_letterAt 75 = .ok (.iconst 1, 1) := by decide +kernel
theorem dX3_letterAt_76 : decode cX3_letterAt 76 = .ok (.isub, 1) := by decide +kernel
theorem dX3_letterAt_77 : decode cX3_letterAt 77 = .ok (.istore 5, 2) := by decide +kernel
theorem dX3_letterAt_79 : decode cX3_letterAt 79 = .ok (.iload 5, 2) := by decide +kernel
theorem dX3_letterAt_81 : decode cX3_letterAt 81 = .ok (.iload_n 3, 1) := by decide +kernel
theorem dX3_letterAt_82 : decode cX3_letterAt 82 = .ok (.if_icmp .le 21, 3) := by decide +kernel
theorem dX3_letterAt_85 : decode cX3_letterAt 85 = .ok (.iload 4, 2) := by decide +kernel
theorem dX3_letterAt_87 : decode cX3_letterAt 87 = .ok (.ifCond .lt 16, 3) := by decide +kernel
theorem dX3_letterAt_90 : decode cX3_letterAt 90 = .ok (.iload 4, 2) := by decide +kernel
theorem dX3_letterAt_92 : decode cX3_letterAt 92 = .ok (.bipush 6, 2) := by decide +kernel
theorem dX3_letterAt_94 : decode cX3_letterAt 94 = .ok (.idiv, 1) := by decide +kernel
theorem dX3_letterAt_95 : decode cX3_letterAt 95 = .ok (.istore 4, 2) := by decide +kernel
theorem dX3_letterAt_97 : decode cX3_letterAt 97 = .ok (.iinc 5 (-1), 3) := by decide +kernel
theorem dX3_letterAt_100 : decode cX3_letterAt 100 = .ok (.goto (-21), 3) := by decide +kernel
theorem dX3_letterAt_103 : decode cX3_letterAt 103 = .ok (.iload 4, 2) := by decide +kernel
theorem dX3_letterAt_105 : decode cX3_letterAt 105 = .ok (.ifCond .lt 11, 3) := by decide +kernel
theorem dX3_letterAt_108 : decode cX3_letterAt 108 = .ok (.iload 4, 2) := by decide +kernel
theorem dX3_letterAt_110 : decode cX3_letterAt 110 = .ok (.bipush 6, 2) := by decide +kernel
theorem dX3_letterAt_112 : decode cX3_letterAt 112 = .ok (.irem, 1) := by decide +kernel
theorem dX3_letterAt_113 : decode cX3_letterAt 113 = .ok (.goto 4, 3) := by decide +kernel
theorem dX3_letterAt_116 : decode cX3_letterAt 116 = .ok (.iconst (-1), 1) := by decide +kernel
theorem dX3_letterAt_117 : decode cX3_letterAt 117 = .ok (.ireturn, 1) := by decide +kernel
set_option maxRecDepth 20000 in
theorem ggX3_forgetIfChanged_X5_changes : GoodIn wsX3_forgetIfChanged wsX5_changes := goodIn_r _ [9, 10, 17, 18, 19, 20, 21] (by decide +kernel) (by decide +kernel)
set_option maxRecDepth 20000 in
theorem gX3_forgetIfChanged_X5_changes : GoodIn wsX3_forgetIfChanged (wsV RX3 60 RX5 yX5_changes wsX5_changes) := goodIn_app (goodIn_of _ (by decide +kernel)) ggX3_forgetIfChanged_X5_changes
theorem dX3_forgetIfChanged_0 : decode cX3_forgetIfChanged 0 = .ok (.aload_n 0, 1) := by decide +kernel
theorem dX3_forgetIfChanged_1 : decode cX3_forgetIfChanged 1 = .ok (.getfield 33, 3) := by decide +kernel
theorem dX3_forgetIfChanged_4 : decode cX3_forgetIfChanged 4 = .ok (.aload_n 0, 1) := by decide +kernel
theorem dX3_forgetIfChanged_5 : decode cX3_forgetIfChanged 5 = .ok (.getfield 37, 3) := by decide +kernel
theorem dX3_forgetIfChanged_8 : decode cX3_forgetIfChanged 8 = .ok (.invokevirtual 60, 3) := by decide +kernel
theorem dX3_forgetIfChanged_11 : decode cX3_forgetIfChanged 11 = .ok (.if_icmp .ne 4, 3) := by decide +kernel
theorem dX3_forgetIfChanged_14 : decode cX3_forgetIfChanged 14 = .ok (.return_, 1) := by decide +kernel
theorem dX3_forgetIfChanged_15 : decode cX3_forgetIfChanged 15 = .ok (.aload_n 0, 1) := by decide +kernel
theorem dX3_forgetIfChanged_16 : decode cX3_forgetIfChanged 16 = .ok (.aload_n 0, 1) := by decide +kernel
theorem dX3_forgetIfChanged_17 : decode cX3_forgetIfChanged 17 = .ok (.getfield 37, 3) := by decide +kernel
theorem dX3_forgetIfChanged_20 : decode cX3_forgetIfChanged 20 = .ok (.invokevirtual 60, 3) := by decide +kernel
theorem dX3_forgetIfChanged_23 : decode cX3_forgetIfChanged 23 = .ok (.putfield 33, 3) := by decide +kernel
theorem dX3_forgetIfChanged_26 : decode cX3_forgetIfChanged 26 = .ok (.iconst 0, 1) := by decide +kernel
theorem dX3_forgetIfChanged_27 : decode cX3_forgetIfChanged 27 = .ok (.istore_n 1, 1) := by decide +kernel
theorem dX3_forgetIfChanged_28 : decode cX3_forgetIfChanged 28 = .ok (.iload_n 1, 1) := by decide +kernel
theorem dX3_forgetIfChanged_29 : decode cX3_forgetIfChanged 29 = .ok (.sipush 150, 3) := by decide +kernel
theorem dX3_forgetIfChanged_32 : decode cX3_forgetIfChanged 32 = .ok (.if_icmp .ge 16, 3) := by decide +kernel
theorem dX3_forgetIfChanged_35 : decode cX3_forgetIfChanged 35 = .ok (.aload_n 0, 1) := by decide +kernel
theorem dX3_forgetIfChanged_36 : decode cX3_forgetIfChanged 36 = .ok (.getfield 25, 3) := by decide +kernel
theorem dX3_forgetIfChanged_39 : decode cX3_forgetIfChanged 39 = .ok (.iload_n 1, 1) := by decide +kernel
theorem dX3_forgetIfChanged_40 : decode cX3_forgetIfChanged 40 = .ok (.lconst 0, 1) := by decide +kernel
theorem dX3_forgetIfChanged_41 : decode cX3_forgetIfChanged 41 = .ok (.lastore, 1) := by decide +kernel
theorem dX3_forgetIfChanged_42 : decode cX3_forgetIfChanged 42 = .ok (.iinc 1 1, 3) := by decide +kernel
theorem dX3_forgetIfChanged_45 : decode cX3_forgetIfChanged 45 = .ok (.goto (-17), 3) := by decide +kernel
theorem dX3_forgetIfChanged_48 : decode cX3_forgetIfChanged 48 = .ok (.iconst 0, 1) := by decide +kernel
theorem dX3_forgetIfChanged_49 : decode cX3_forgetIfChanged 49 = .ok (.istore_n 1, 1) := by decide +kernel
theorem dX3_forgetIfChanged_50 : decode cX3_forgetIfChanged 50 = .ok (.iload_n 1, 1) := by decide +kernel
theorem dX3_forgetIfChanged_51 : decode cX3_forgetIfChanged 51 = .ok (.iconst 5, 1) := by decide +kernel
theorem dX3_forgetIfChanged_52 : decode cX3_forgetIfChanged 52 = .ok (.if_icmp .gt 16, 3) := by decide +kernel
theorem dX3_forgetIfChanged_55 : decode cX3_forgetIfChanged 55 = .ok (.aload_n 0, 1) := by decide +kernel
theorem dX3_forgetIfChanged_56 : decode cX3_forgetIfChanged 56 = .ok (.getfield 29, 3) := by decide +kernel
theorem dX3_forgetIfChanged_59 : decode cX3_forgetIfChanged 59 = .ok (.iload_n 1, 1) := by decide +kernel
theorem dX3_forgetIfChanged_60 : decode cX3_forgetIfChanged 60 = .ok (.iconst 0, 1) := by decide +kernel
theorem dX3_forgetIfChanged_61 : decode cX3_forgetIfChanged 61 = .ok (.bastore, 1) := by decide +kernel
theorem dX3_forgetIfChanged_62 : decode cX3_forgetIfChanged 62 = .ok (.iinc 1 1, 3) := by decide +kernel
theorem dX3_forgetIfChanged_65 : decode cX3_forgetIfChanged 65 = .ok (.goto (-15), 3) := by decide +kernel
theorem dX3_forgetIfChanged_68 : decode cX3_forgetIfChanged 68 = .ok (.return_, 1) := by decide +kernel
set_option maxRecDepth 20000 in
theorem ggX3_grow_X9_comeAt : GoodIn wsX3_grow wsX9_comeAt := goodIn_r _ [8, 9, 102, 103, 104] (by decide +kernel) (by decide +kernel)
set_option maxRecDepth 20000 in
theorem gX3_grow_X9_comeAt : GoodIn wsX3_grow (wsV RX3 66 RX9 yX9_comeAt wsX9_comeAt) := goodIn_app (goodIn_of _ (by decide +kernel)) ggX3_grow_X9_comeAt
set_option maxRecDepth 20000 in
theorem ggX3_grow_X5_takesAny : GoodIn wsX3_grow wsX5_takesAny := goodIn_r _ [14, 15, 105, 106, 107, 108, 109] (by decide +kernel) (by decide +kernel)
set_option maxRecDepth 20000 in
theorem gX3_grow_X5_takesAny : GoodIn wsX3_grow (wsV RX3 70 RX5 yX5_takesAny wsX5_takesAny) := goodIn_app (goodIn_of _ (by decide +kernel)) ggX3_grow_X5_takesAny
set_option maxRecDepth 20000 in
theorem ggX3_grow_X3_keep : GoodIn wsX3_grow wsX3_keep := goodIn_r _ [20, 21, 22, 96, 97, 98, 99, 100, 101] (by decide +kernel) (by decide +kernel)
set_option maxRecDepth 20000 in
theorem gX3_grow_X3_keep : GoodIn wsX3_grow (wsV RX3 74 RX3 yX3_keep wsX3_keep) := goodIn_app (goodIn_of _ (by decide +kernel)) ggX3_grow_X3_keep
set_option maxRecDepth 20000 in
theorem ggX3_grow_X6_cut : GoodIn wsX3_grow wsX6_cut := goodIn_r _ [27, 28, 110, 111, 112] (by decide +kernel) (by decide +kernel)
set_option maxRecDepth 20000 in
theorem gX3_grow_X6_cut : GoodIn wsX3_grow (wsV RX3 44 RX6 yX6_cut wsX6_cut) := goodIn_app (goodIn_of _ (by decide +kernel)) ggX3_grow_X6_cut
set_option maxRecDepth 20000 in
theorem ggX3_grow_X6_append : GoodIn wsX3_grow wsX6_append := goodIn_r _ [32, 28, 33, 34, 35, 36, 37, 26, 38, 39, 40, 41, 42, 43, 44, 45, 46, 47, 48, 13, 49, 50, 51, 52, 53, 54, 55, 110, 111, 112] (by decide +kernel) (by decide +kernel)
set_option maxRecDepth 20000 in
theorem gX3_grow_X6_append : GoodIn wsX3_grow (wsV RX3 78 RX6 yX6_append wsX6_append) := goodIn_app (goodIn_of _ (by decide +kernel)) ggX3_grow_X6_append
set_option maxRecDepth 20000 in
theorem ggX3_grow_X9_step : GoodIn wsX3_grow wsX9_step := goodIn_r _ [59, 60, 9, 61, 62, 44, 45, 26, 46, 28, 33, 63, 36, 37, 38, 39, 40, 41, 42, 34, 43, 47, 48, 13, 49, 64, 51, 52, 65, 66, 67, 68, 69, 70, 71, 72, 7, 73, 74, 75, 76, 77, 78, 79, 80, 81, 54, 55, 82, 83, 84, 85, 86, 87, 88, 89, 90, 91, 92, 93, 102, 103, 104, 110, 111, 112, 105, 106, 107, 108, 109] (by decide +kernel) (by decide +kernel)
set_option maxRecDepth 20000 in
theorem gX3_grow_X9_step : GoodIn wsX3_grow (wsV RX3 81 RX9 yX9_step wsX9_step) := goodIn_app (goodIn_of _ (by decide +kernel)) ggX3_grow_X9_step
set_option maxRecDepth 20000 in
theorem ggX3_grow_X3_grow : GoodIn wsX3_grow wsX3_grow := goodIn_r _ [0, 1, 2, 3, 4, 5, 6, 7, 8, 9, 10, 11, 12, 13, 14, 15, 16, 17, 18, 19, 20, 21, 22, 23, 24, 25, 26, 27, 28, 29, 30, 31, 32, 33, 34, 35, 36, 37, 38, 39, 40, 41, 42, 43, 44, 45, 46, 47, 48, 49, 50, 51, 52, 53, 54, 55, 56, 57, 58, 59, 60, 61, 62, 63, 64, 65, 66, 67, 68, 69, 70, 71, 72, 73, 74, 75, 76, 77, 78, 79, 80, 81, 82, 83, 84, 85, 86, 87, 88, 89, 90, 91, 92, 93, 94, 95, 96, 97, 98, 99, 100, 101, 102, 103, 104, 105, 106, 107, 108, 109, 110, 111, 112] (by decide +kernel) (by decide +kernel)
set_option maxRecDepth 20000 in
theorem gX3_grow_X3_grow : GoodIn wsX3_grow (va_wsS RX3 52 yX3_grow wsX3_grow) := goodIn_app (goodIn_of _ (by decide +kernel)) ggX3_grow_X3_grow
theorem dX3_grow_0 : decode cX3_grow 0 = .ok (.aload_n 0, 1) := by decide +kernel
theorem dX3_grow_1 : decode cX3_grow 1 = .ok (.getfield 21, 3) := by decide +kernel
theorem dX3_grow_4 : decode cX3_grow 4 = .ok (.iload_n 1, 1) := by decide +kernel
theorem dX3_grow_5 : decode cX3_grow 5 = .ok (.invokevirtual 66, 3) := by decide +kernel
theorem dX3_grow_8 : decode cX3_grow 8 = .ok (.istore 4, 2) := by decide +kernel
theorem dX3_grow_10 : decode cX3_grow 10 = .ok (.iload_n 1, 1) := by decide +kernel
theorem dX3_grow_11 : decode cX3_grow 11 = .ok (.iload_n 3, 1) := by decide +kernel
theorem dX3_grow_12 : decode cX3_grow 12 = .ok (.if_icmp .ne 21, 3) := by decide +kernel
theorem dX3_grow_15 : decode cX3_grow 15 = .ok (.aload_n 0, 1) := by decide +kernel
theorem dX3_grow_16 : decode cX3_grow 16 = .ok (.getfield 37, 3) := by decide +kernel
theorem dX3_grow_19 : decode cX3_grow 19 = .ok (.iload 4, 2) := by decide +kernel
theorem dX3_grow_21 : decode cX3_grow 21 = .ok (.invokevirtual 70, 3) := by decide +kernel
theorem dX3_grow_24 : decode cX3_grow 24 = .ok (.ifCond .eq 9, 3) := by decide +kernel
theorem dX3_grow_27 : decode cX3_grow 27 = .ok (.aload_n 0, 1) := by decide +kernel
theorem dX3_grow_28 : decode cX3_grow 28 = .ok (.iload_n 3, 1) := by decide +kernel
theorem dX3_grow_29 : decode cX3_grow 29 = .ok (.iload_n 2, 1) := by decide +kernel
theorem dX3_grow_30 : decode cX3_grow 30 = .ok (.invokevirtual 74, 3) := by decide +kernel
theorem dX3_grow_33 : decode cX3_grow 33 = .ok (.iload_n 1, 1) := by decide +kernel
theorem dX3_grow_34 : decode cX3_grow 34 = .ok (.iload_n 3, 1) := by decide +kernel
theorem dX3_grow_35 : decode cX3_grow 35 = .ok (.if_icmp .ge 13, 3) := by decide +kernel
theorem dX3_grow_38 : decode cX3_grow 38 = .ok (.iload_n 1, 1) := by decide +kernel
theorem dX3_grow_39 : decode cX3_grow 39 = .ok (.iconst 5, 1) := by decide +kernel
theorem dX3_grow_40 : decode cX3_grow 40 = .ok (.if_icmp .ge 8, 3) := by decide +kernel
theorem dX3_grow_43 : decode cX3_grow 43 = .ok (.iload 4, 2) := by decide +kernel
theorem dX3_grow_45 : decode cX3_grow 45 = .ok (.ifCond .ne 4, 3) := by decide +kernel
theorem dX3_grow_48 : decode cX3_grow 48 = .ok (.return_, 1) := by decide +kernel
theorem dX3_grow_49 : decode cX3_grow 49 = .ok (.iconst 0, 1) := by decide +kernel
theorem dX3_grow_50 : decode cX3_grow 50 = .ok (.istore 5, 2) := by decide +kernel
theorem dX3_grow_52 : decode cX3_grow 52 = .ok (.iload 5, 2) := by decide +kernel
theorem dX3_grow_54 : decode cX3_grow 54 = .ok (.bipush 6, 2) := by decide +kernel
theorem dX3_grow_56 : decode cX3_grow 56 = .ok (.if_icmp .ge 57, 3) := by decide +kernel
theorem dX3_grow_59 : decode cX3_grow 59 = .ok (.aload_n 0, 1) := by decide +kernel
theorem dX3_grow_60 : decode cX3_grow 60 = .ok (.getfield 12, 3) := by decide +kernel
theorem dX3_grow_63 : decode cX3_grow 63 = .ok (.iload_n 1, 1) := by decide +kernel
theorem dX3_grow_64 : decode cX3_grow 64 = .ok (.invokevirtual 44, 3) := by decide +kernel
theorem dX3_grow_67 : decode cX3_grow 67 = .ok (.aload_n 0, 1) := by decide +kernel
theorem dX3_grow_68 : decode cX3_grow 68 = .ok (.getfield 12, 3) := by decide +kernel
theorem dX3_grow_71 : decode cX3_grow 71 = .ok (.iload 5, 2) := by decide +kernel
theorem dX3_grow_73 : decode cX3_grow 73 = .ok (.invokevirtual 78, 3) := by decide +kernel
theorem dX3_grow_76 : decode cX3_grow 76 = .ok (.aload_n 0, 1) := by decide +kernel
theorem dX3_grow_77 : decode cX3_grow 77 = .ok (.getfield 21, 3) := by decide +kernel
theorem dX3_grow_80 : decode cX3_grow 80 = .ok (.aload_n 0, 1) := by decide +kernel
theorem dX3_grow_81 : decode cX3_grow 81 = .ok (.getfield 37, 3) := by decide +kernel
theorem dX3_grow_84 : decode cX3_grow 84 = .ok (.aload_n 0, 1) := by decide +kernel
theorem dX3_grow_85 : decode cX3_grow 85 = .ok (.getfield 12, 3) := by decide +kernel
theorem dX3_grow_88 : decode cX3_grow 88 = .ok (.iload_n 1, 1) := by decide +kernel
theorem dX3_grow_89 : decode cX3_grow 89 = .ok (.invokevirtual 81, 3) := by decide +kernel
theorem dX3_grow_92 : decode cX3_grow 92 = .ok (.aload_n 0, 1) := by decide +kernel
theorem dX3_grow_93 : decode cX3_grow 93 = .ok (.iload_n 1, 1) := by decide +kernel
theorem dX3_grow_94 : decode cX3_grow 94 = .ok (.iconst 1, 1) := by decide +kernel
theorem dX3_grow_95 : decode cX3_grow 95 = .ok (.iadd, 1) := by decide +kernel
theorem dX3_grow_96 : decode cX3_grow 96 = .ok (.iload_n 2, 1) := by decide +kernel
theorem dX3_grow_97 : decode cX3_grow 97 = .ok (.bipush 6, 2) := by decide +kernel
theorem dX3_grow_99 : decode cX3_grow 99 = .ok (.imul, 1) := by decide +kernel
theorem dX3_grow_100 : decode cX3_grow 100 = .ok (.iload 5, 2) := by decide +kernel
theorem dX3_grow_102 : decode cX3_grow 102 = .ok (.iadd, 1) := by decide +kernel
theorem dX3_grow_103 : decode cX3_grow 103 = .ok (.iload_n 3, 1) := by decide +kernel
theorem dX3_grow_104 : decode cX3_grow 104 = .ok (.invokestatic 52, 3) := by decide +kernel
theorem dX3_grow_107 : decode cX3_grow 107 = .ok (.iinc 5 1, 3) := by decide +kernel
theorem dX3_grow_110 : decode cX3_grow 110 = .ok (.goto (-58), 3) := by decide +kernel
theorem dX3_grow_113 : decode cX3_grow 113 = .ok (.return_, 1) := by decide +kernel
theorem dX3_keep_0 : decode cX3_keep 0 = .ok (.getstatic 85, 3) := by decide +kernel
theorem dX3_keep_3 : decode cX3_keep 3 = .ok (.iload_n 1, 1) := by decide +kernel
theorem dX3_keep_4 : decode cX3_keep 4 = .ok (.iaload, 1) := by decide +kernel
theorem dX3_keep_5 : decode cX3_keep 5 = .ok (.iload_n 2, 1) := by decide +kernel
theorem dX3_keep_6 : decode cX3_keep 6 = .ok (.bipush 64, 2) := by decide +kernel
theorem dX3_keep_8 : decode cX3_keep 8 = .ok (.idiv, 1) := by decide +kernel
theorem dX3_keep_9 : decode cX3_keep 9 = .ok (.iadd, 1) := by decide +kernel
theorem dX3_keep_10 : decode cX3_keep 10 = .ok (.istore_n 3, 1) := by decide +kernel
theorem dX3_keep_11 : decode cX3_keep 11 = .ok (.iload_n 3, 1) := by decide +kernel
theorem dX3_keep_12 : decode cX3_keep 12 = .ok (.ifCond .lt 25, 3) := by decide +kernel
theorem dX3_keep_15 : decode cX3_keep 15 = .ok (.iload_n 3, 1) := by decide +kernel
theorem dX3_keep_16 : decode cX3_keep 16 = .ok (.sipush 150, 3) := by decide +kernel
theorem dX3_keep_19 : decode cX3_keep 19 = .ok (.if_icmp .ge 18, 3) := by decide +kernel
theorem dX3_keep_22 : decode cX3_keep 22 = .ok (.aload_n 0, 1) := by decide +kernel
theorem dX3_keep_23 : decode cX3_keep 23 = .ok (.getfield 25, 3) := by decide +kernel
theorem dX3_keep_26 : decode cX3_keep 26 = .ok (.iload_n 3, 1) := by decide +kernel
theorem dX3_keep_27 : decode cX3_keep 27 = .ok (.dup2, 1) := by decide +kernel
theorem dX3_keep_28 : decode cX3_keep 28 = .ok (.laload, 1) := by decide +kernel
theorem dX3_keep_29 : decode cX3_keep 29 = .ok (.lconst 1, 1) := by decide +kernel
theorem dX3_keep_30 : decode cX3_keep 30 = .ok (.iload_n 2, 1) := by decide +kernel
theorem dX3_keep_31 : decode cX3_keep 31 = .ok (.bipush 64, 2) := by decide +kernel
theorem dX3_keep_33 : decode cX3_keep 33 = .ok (.irem, 1) := by decide +kernel
theorem dX3_keep_34 : decode cX3_keep 34 = .ok (.lshl, 1) := by decide +kernel
theorem dX3_keep_35 : decode cX3_keep 35 = .ok (.lor, 1) := by decide +kernel
theorem dX3_keep_36 : decode cX3_keep 36 = .ok (.lastore, 1) := by decide +kernel
theorem dX3_keep_37 : decode cX3_keep 37 = .ok (.return_, 1) := by decide +kernel
set_option maxRecDepth 20000 in
theorem ggX3_numberOf_J13_bitCount_95d88 : GoodIn wsX3_numberOf wsJ13_bitCount_95d88 := goodIn_r _ [6, 7, 8, 9] (by decide +kernel) (by decide +kernel)
set_option maxRecDepth 20000 in
theorem gX3_numberOf_J13_bitCount_95d88 : GoodIn wsX3_numberOf (va_wsS RX3 89 yJ13_bitCount_95d88 wsJ13_bitCount_95d88) := goodIn_app (goodIn_of _ (by decide +kernel)) ggX3_numberOf_J13_bitCount_95d88
set_option maxRecDepth 20000 in
theorem ggX3_numberOf_X3_placeOf : GoodIn wsX3_numberOf wsX3_placeOf := goodIn_r _ [13] (by decide +kernel) (by decide +kernel)
set_option maxRecDepth 20000 in
theorem gX3_numberOf_X3_placeOf : GoodIn wsX3_numberOf (va_wsS RX3 95 yX3_placeOf wsX3_placeOf) := goodIn_app (goodIn_of _ (by decide +kernel)) ggX3_numberOf_X3_placeOf
theorem dX3_numberOf_0 : decode cX3_numberOf 0 = .ok (.iload_n 1, 1) := by decide +kernel
theorem dX3_numberOf_1 : decode cX3_numberOf 1 = .ok (.iconst 5, 1) := by decide +kernel
theorem dX3_numberOf_2 : decode cX3_numberOf 2 = .ok (.if_icmp .ge 13, 3) := by decide +kernel
theorem dX3_numberOf_5 : decode cX3_numberOf 5 = .ok (.getstatic 85, 3) := by decide +kernel
theorem dX3_numberOf_8 : decode cX3_numberOf 8 = .ok (.iload_n 1, 1) := by decide +kernel
theorem dX3_numberOf_9 : decode cX3_numberOf 9 = .ok (.iconst 1, 1) := by decide +kernel
theorem dX3_numberOf_10 : decode cX3_numberOf 10 = .ok (.iadd, 1) := by decide +kernel
theorem dX3_numberOf_11 : decode cX3_numberOf 11 = .ok (.iaload, 1) := by decide +kernel
theorem dX3_numberOf_12 : decode cX3_numberOf 12 = .ok (.goto 6, 3) := by decide +kernel
theorem dX3_numberOf_15 : decode cX3_numberOf 15 = .ok (.sipush 150, 3) := by decide +kernel
theorem dX3_numberOf_18 : decode cX3_numberOf 18 = .ok (.istore_n 3, 1) := by decide +kernel
theorem dX3_numberOf_19 : decode cX3_numberOf 19 = .ok (.iload_n 2, 1) := by decide +kernel
theorem dX3_numberOf_20 : decode cX3_numberOf 20 = .ok (.istore 4, 2) := by decide +kernel
theorem dX3_numberOf_22 : decode cX3_numberOf 22 = .ok (.getstatic 85, 3) := by decide +kernel
theorem dX3_numberOf_25 : decode cX3_numberOf 25 = .ok (.iload_n 1, 1) := by decide +kernel
theorem dX3_numberOf_26 : decode cX3_numberOf 26 = .ok (.iaload, 1) := by decide +kernel
theorem dX3_numberOf_27 : decode cX3_numberOf 27 = .ok (.istore 5, 2) := by decide +kernel
theorem dX3_numberOf_29 : decode cX3_numberOf 29 = .ok (.iload 5, 2) := by decide +kernel
theorem dX3_numberOf_31 : decode cX3_numberOf 31 = .ok (.iload_n 3, 1) := by decide +kernel
theorem dX3_numberOf_32 : decode cX3_numberOf 32 = .ok (.if_icmp .ge 60, 3) := by decide +kernel
theorem dX3_numberOf_35 : decode cX3_numberOf 35 = .ok (.aload_n 0, 1) := by decide +kernel
theorem dX3_numberOf_36 : decode cX3_numberOf 36 = .ok (.getfield 25, 3) := by decide +kernel
theorem dX3_numberOf_39 : decode cX3_numberOf 39 = .ok (.iload 5, 2) := by decide +kernel
theorem dX3_numberOf_41 : decode cX3_numberOf 41 = .ok (.laload, 1) := by decide +kernel
theorem dX3_numberOf_42 : decode cX3_numberOf 42 = .ok (.invokestatic 89, 3) := by decide +kernel
theorem dX3_numberOf_45 : decode cX3_numberOf 45 = .ok (.istore 6, 2) := by decide +kernel
theorem dX3_numberOf_47 : decode cX3_numberOf 47 = .ok (.iload 4, 2) := by decide +kernel
theorem dX3_numberOf_49 : decode cX3_numberOf 49 = .ok (.iload 6, 2) := by decide +kernel
theorem dX3_numberOf_51 : decode cX3_numberOf 51 = .ok (.if_icmp .ge 28, 3) := by decide +kernel
theorem dX3_numberOf_54 : decode cX3_numberOf 54 = .ok (.iload 5, 2) := by decide +kernel
theorem dX3_numberOf_56 : decode cX3_numberOf 56 = .ok (.getstatic 85, 3) := by decide +kernel
theorem dX3_numberOf_59 : decode cX3_numberOf 59 = .ok (.iload_n 1, 1) := by decide +kernel
theorem dX3_numberOf_60 : decode cX3_numberOf 60 = .ok (.iaload, 1) := by decide +kernel
theorem dX3_numberOf_61 : decode cX3_numberOf 61 = .ok (.isub, 1) := by decide +kernel
theorem dX3_numberOf_62 : decode cX3_numberOf 62 = .ok (.bipush 64, 2) := by decide +kernel
theorem dX3_numberOf_64 : decode cX3_numberOf 64 = .ok (.imul, 1) := by decide +kernel
theorem dX3_numberOf_65 : decode cX3_numberOf 65 = .ok (.aload_n 0, 1) := by decide +kernel
theorem dX3_numberOf_66 : decode cX3_numberOf 66 = .ok (.getfield 25, 3) := by decide +kernel
theorem dX3_numberOf_69 : decode cX3_numberOf 69 = .ok (.iload 5, 2) := by decide +kernel
theorem dX3_numberOf_71 : decode cX3_numberOf 71 = .ok (.laload, 1) := by decide +kernel
theorem dX3_numberOf_72 : decode cX3_numberOf 72 = .ok (.iload 4, 2) := by decide +kernel
theorem dX3_numberOf_74 : decode cX3_numberOf 74 = .ok (.invokestatic 95, 3) := by decide +kernel
theorem dX3_numberOf_77 : decode cX3_numberOf 77 = .ok (.iadd, 1) := by decide +kernel
theorem dX3_numberOf_78 : decode cX3_numberOf 78 = .ok (.ireturn, 1) := by decide +kernel
theorem dX3_numberOf_79 : decode cX3_numberOf 79 = .ok (.iload 4, 2) := by decide +kernel
theorem dX3_numberOf_81 : decode cX3_numberOf 81 = .ok (.iload 6, 2) := by decide +kernel
theorem dX3_numberOf_83 : decode cX3_numberOf 83 = .ok (.isub, 1) := by decide +kernel
theorem dX3_numberOf_84 : decode cX3_numberOf 84 = .ok (.istore 4, 2) := by decide +kernel
theorem dX3_numberOf_86 : decode cX3_numberOf 86 = .ok (.iinc 5 1, 3) := by decide +kernel
theorem dX3_numberOf_89 : decode cX3_numberOf 89 = .ok (.goto (-60), 3) := by decide +kernel
theorem dX3_numberOf_92 : decode cX3_numberOf 92 = .ok (.iconst (-1), 1) := by decide +kernel
theorem dX3_numberOf_93 : decode cX3_numberOf 93 = .ok (.ireturn, 1) := by decide +kernel
theorem dX3_placeOf_0 : decode cX3_placeOf 0 = .ok (.iload_n 2, 1) := by decide +kernel
theorem dX3_placeOf_1 : decode cX3_placeOf 1 = .ok (.istore_n 3, 1) := by decide +kernel
theorem dX3_placeOf_2 : decode cX3_placeOf 2 = .ok (.iconst 0, 1) := by decide +kernel
theorem dX3_placeOf_3 : decode cX3_placeOf 3 = .ok (.istore 4, 2) := by decide +kernel
theorem dX3_placeOf_5 : decode cX3_placeOf 5 = .ok (.iload 4, 2) := by decide +kernel
theorem dX3_placeOf_7 : decode cX3_placeOf 7 = .ok (.bipush 64, 2) := by decide +kernel
theorem dX3_placeOf_9 : decode cX3_placeOf 9 = .ok (.if_icmp .ge 30, 3) := by decide +kernel
theorem dX3_placeOf_12 : decode cX3_placeOf 12 = .ok (.lload_n 0, 1) := by decide +kernel
theorem dX3_placeOf_13 : decode cX3_placeOf 13 = .ok (.iload 4, 2) := by decide +kernel
theorem dX3_placeOf_15 : decode cX3_placeOf 15 = .ok (.lshr, 1) := by decide +kernel
theorem dX3_placeOf_16 : decode cX3_placeOf 16 = .ok (.lconst 1, 1) := by decide +kernel
theorem dX3_placeOf_17 : decode cX3_placeOf 17 = .ok (.land, 1) := by decide +kernel
theorem dX3_placeOf_18 : decode cX3_placeOf 18 = .ok (.lconst 0, 1) := by decide +kernel
theorem dX3_placeOf_19 : decode cX3_placeOf 19 = .ok (.lcmp, 1) := by decide +kernel
theorem dX3_placeOf_20 : decode cX3_placeOf 20 = .ok (.ifCond .eq 13, 3) := by decide +kernel
theorem dX3_placeOf_23 : decode cX3_placeOf 23 = .ok (.iload_n 3, 1) := by decide +kernel
theorem dX3_placeOf_24 : decode cX3_placeOf 24 = .ok (.ifCond .ne 6, 3) := by decide +kernel
theorem dX3_placeOf_27 : decode cX3_placeOf 27 = .ok (.iload 4, 2) := by decide +kernel
theorem dX3_placeOf_29 : decode cX3_placeOf 29 = .ok (.ireturn, 1) := by decide +kernel
theorem dX3_placeOf_30 : decode cX3_placeOf 30 = .ok (.iinc 3 (-1), 3) := by decide +kernel
theorem dX3_placeOf_33 : decode cX3_placeOf 33 = .ok (.iinc 4 1, 3) := by decide +kernel
theorem dX3_placeOf_36 : decode cX3_placeOf 36 = .ok (.goto (-31), 3) := by decide +kernel
theorem dX3_placeOf_39 : decode cX3_placeOf 39 = .ok (.iconst (-1), 1) := by decide +kernel
theorem dX3_placeOf_40 : decode cX3_placeOf 40 = .ok (.ireturn, 1) := by decide +kernel
set_option maxRecDepth 20000 in
theorem ggX4_init_X10_init : GoodIn wsX4_init wsX10_init := goodIn_r _ [20, 21, 2, 3, 14, 22, 23, 24, 25, 26, 27, 28, 29, 30, 31, 32, 48, 49, 50, 51, 52, 53, 54, 55, 56, 57, 58] (by decide +kernel) (by decide +kernel)
set_option maxRecDepth 20000 in
theorem gX4_init_X10_init : GoodIn wsX4_init (wsX10_init) := ggX4_init_X10_init
set_option maxRecDepth 20000 in
theorem ggX4_init_X1_codes : GoodIn wsX4_init wsX1_codes := goodIn_r _ [37, 38, 59, 60, 61] (by decide +kernel) (by decide +kernel)
set_option maxRecDepth 20000 in
theorem gX4_init_X1_codes : GoodIn wsX4_init (wsV RX4 41 RX1 yX1_codes wsX1_codes) := goodIn_app (goodIn_of _ (by decide +kernel)) ggX4_init_X1_codes
theorem dX4_init_0 : decode cX4_init 0 = .ok (.aload_n 0, 1) := by decide +kernel
theorem dX4_init_1 : decode cX4_init 1 = .ok (.invokespecial 3, 3) := by decide +kernel
theorem dX4_init_4 : decode cX4_init 4 = .ok (.aload_n 0, 1) := by decide +kernel
theorem dX4_init_5 : decode cX4_init 5 = .ok (.lconst 0, 1) := by decide +kernel
theorem dX4_init_6 : decode cX4_init 6 = .ok (.putfield 9, 3) := by decide +kernel
theorem dX4_init_9 : decode cX4_init 9 = .ok (.aload_n 0, 1) := by decide +kernel
theorem dX4_init_10 : decode cX4_init 10 = .ok (.lconst 0, 1) := by decide +kernel
theorem dX4_init_11 : decode cX4_init 11 = .ok (.putfield 15, 3) := by decide +kernel
theorem dX4_init_14 : decode cX4_init 14 = .ok (.aload_n 0, 1) := by decide +kernel
theorem dX4_init_15 : decode cX4_init 15 = .ok (.iconst 0, 1) := by decide +kernel
theorem dX4_init_16 : decode cX4_init 16 = .ok (.putfield 18, 3) := by decide +kernel
theorem dX4_init_19 : decode cX4_init 19 = .ok (.aload_n 0, 1) := by decide +kernel
theorem dX4_init_20 : decode cX4_init 20 = .ok (.iconst 0, 1) := by decide +kernel
theorem dX4_init_21 : decode cX4_init 21 = .ok (.putfield 22, 3) := by decide +kernel
theorem dX4_init_24 : decode cX4_init 24 = .ok (.aload_n 0, 1) := by decide +kernel
theorem dX4_init_25 : decode cX4_init 25 = .ok (.iconst 0, 1) := by decide +kernel
theorem dX4_init_26 : decode cX4_init 26 = .ok (.putfield 25, 3) := by decide +kernel
theorem dX4_init_29 : decode cX4_init 29 = .ok (.aload_n 0, 1) := by decide +kernel
theorem dX4_init_30 : decode cX4_init 30 = .ok (.aload_n 1, 1) := by decide +kernel
theorem dX4_init_31 : decode cX4_init 31 = .ok (.putfield 28, 3) := by decide +kernel
theorem dX4_init_34 : decode cX4_init 34 = .ok (.aload_n 0, 1) := by decide +kernel
theorem dX4_init_35 : decode cX4_init 35 = .ok (.new 32, 3) := by decide +kernel
theorem dX4_init_38 : decode cX4_init 38 = .ok (.dup, 1) := by decide +kernel
theorem dX4_init_39 : decode cX4_init 39 = .ok (.aload_n 1, 1) := by decide +kernel
theorem dX4_init_40 : decode cX4_init 40 = .ok (.invokespecial 34, 3) := by decide +kernel
theorem dX4_init_43 : decode cX4_init 43 = .ok (.putfield 37, 3) := by decide +kernel
theorem dX4_init_46 : decode cX4_init 46 = .ok (.aload_n 0, 1) := by decide +kernel
theorem dX4_init_47 : decode cX4_init 47 = .ok (.aload_n 1, 1) := by decide +kernel
theorem dX4_init_48 : decode cX4_init 48 = .ok (.invokevirtual 41, 3) := by decide +kernel
theorem dX4_init_51 : decode cX4_init 51 = .ok (.bipush 60, 2) := by decide +kernel
theorem dX4_init_53 : decode cX4_init 53 = .ok (.imul, 1) := by decide +kernel
theorem dX4_init_54 : decode cX4_init 54 = .ok (.newarray .int, 2) := by decide +kernel
theorem dX4_init_56 : decode cX4_init 56 = .ok (.putfield 46, 3) := by decide +kernel
theorem dX4_init_59 : decode cX4_init 59 = .ok (.aload_n 0, 1) := by decide +kernel
theorem dX4_init_60 : decode cX4_init 60 = .ok (.aload_n 1, 1) := by decide +kernel
theorem dX4_init_61 : decode cX4_init 61 = .ok (.invokevirtual 41, 3) := by decide +kernel
theorem dX4_init_64 : decode cX4_init 64 = .ok (.newarray .long, 2) := by decide +kernel
theorem dX4_init_66 : decode cX4_init 66 = .ok (.putfield 50, 3) := by decide +kernel
theorem dX4_init_69 : decode cX4_init 69 = .ok (.return_, 1) := by decide +kernel
theorem dX4_held_0 : decode cX4_held 0 = .ok (.aload_n 0, 1) := by decide +kernel
theorem dX4_held_1 : decode cX4_held 1 = .ok (.getfield 28, 3) := by decide +kernel
theorem dX4_held_4 : decode cX4_held 4 = .ok (.areturn, 1) := by decide +kernel
theorem dX4_wholes_0 : decode cX4_wholes 0 = .ok (.aload_n 0, 1) := by decide +kernel
theorem dX4_wholes_1 : decode cX4_wholes 1 = .ok (.getfield 37, 3) := by decide +kernel
theorem dX4_wholes_4 : decode cX4_wholes 4 = .ok (.areturn, 1) := by decide +kernel
theorem dX4_edition_0 : decode cX4_edition 0 = .ok (.aload_n 0, 1) := by decide +kernel
theorem dX4_edition_1 : decode cX4_edition 1 = .ok (.getfield 22, 3) := by decide +kernel
theorem dX4_edition_4 : decode cX4_edition 4 = .ok (.ireturn, 1) := by decide +kernel
theorem dX4_size_0 : decode cX4_size 0 = .ok (.aload_n 0, 1) := by decide +kernel
theorem dX4_size_1 : decode cX4_size 1 = .ok (.getfield 18, 3) := by decide +kernel
theorem dX4_size_4 : decode cX4_size 4 = .ok (.ireturn, 1) := by decide +kernel
theorem dX4_codes_0 : decode cX4_codes 0 = .ok (.aload_n 0, 1) := by decide +kernel
theorem dX4_codes_1 : decode cX4_codes 1 = .ok (.getfield 15, 3) := by decide +kernel
theorem dX4_codes_4 : decode cX4_codes 4 = .ok (.lreturn, 1) := by decide +kernel
set_option maxRecDepth 20000 in
theorem ggX4_areSpent_X1_changes : GoodIn wsX4_areSpent wsX1_changes := goodIn_r _ [12, 13, 14, 15, 16, 17, 18, 19, 20, 21, 179, 180, 181, 182, 183, 184, 185, 186] (by decide +kernel) (by decide +kernel)
set_option maxRecDepth 20000 in
theorem gX4_areSpent_X1_changes : GoodIn wsX4_areSpent (wsV RX4 54 RX1 yX1_changes wsX1_changes) := goodIn_app (goodIn_of _ (by decide +kernel)) ggX4_areSpent_X1_changes
set_option maxRecDepth 20000 in
theorem ggX4_areSpent_X10_build : GoodIn wsX4_areSpent wsX10_build := goodIn_r _ [26, 27, 28, 29, 30, 31, 32, 33, 34, 35, 36, 37, 11, 38, 13, 14, 15, 39, 40, 41, 19, 42, 43, 44, 45, 46, 47, 48, 49, 50, 51, 52, 25, 53, 54, 55, 56, 57, 58, 59, 60, 61, 62, 63, 64, 65, 66, 67, 68, 69, 70, 71, 72, 73, 74, 75, 76, 77, 78, 79, 80, 81, 82, 83, 84, 85, 86, 87, 88, 89, 90, 91, 92, 93, 94, 95, 96, 97, 98, 99, 100, 187, 188, 189, 190, 191, 192, 193, 194, 195, 196, 197, 179, 180, 181, 182, 183, 184, 185, 186] (by decide +kernel) (by decide +kernel)
set_option maxRecDepth 20000 in
theorem gX4_areSpent_X10_build : GoodIn wsX4_areSpent (wsV RX4 57 RX10 yX10_build wsX10_build) := goodIn_app (goodIn_of _ (by decide +kernel)) ggX4_areSpent_X10_build
set_option maxRecDepth 20000 in
theorem ggX4_areSpent_X10_areSpent : GoodIn wsX4_areSpent wsX10_areSpent := goodIn_r _ [104, 29, 187, 188, 189, 190, 191, 192, 193, 194, 195, 196, 197] (by decide +kernel) (by decide +kernel)
set_option maxRecDepth 20000 in
theorem gX4_areSpent_X10_areSpent : GoodIn wsX4_areSpent (wsV RX4 60 RX10 yX10_areSpent wsX10_areSpent) := goodIn_app (goodIn_of _ (by decide +kernel)) ggX4_areSpent_X10_areSpent
set_option maxRecDepth 20000 in
theorem ggX4_areSpent_X1_beginning : GoodIn wsX4_areSpent wsX1_beginning := goodIn_r _ [108, 14, 109, 110, 11, 111, 179, 180, 181] (by decide +kernel) (by decide +kernel)
set_option maxRecDepth 20000 in
theorem gX4_areSpent_X1_beginning : GoodIn wsX4_areSpent (wsV RX4 64 RX1 yX1_beginning wsX1_beginning) := goodIn_app (goodIn_of _ (by decide +kernel)) ggX4_areSpent_X1_beginning
set_option maxRecDepth 20000 in
theorem ggX4_areSpent_X4_spread : GoodIn wsX4_areSpent wsX4_spread := goodIn_r _ [116, 117, 118, 119, 120, 115, 121, 4, 7, 122, 123, 124, 125, 25, 126, 27, 127, 128, 129, 130, 33, 131, 132, 11, 133, 134, 77, 19, 78, 109, 110, 111, 170, 171, 172, 173, 174, 175, 176, 177, 178, 187, 188, 189, 190, 191, 192, 193, 194, 195, 196, 197] (by decide +kernel) (by decide +kernel)
set_option maxRecDepth 20000 in
theorem gX4_areSpent_X4_spread : GoodIn wsX4_areSpent (wsV RX4 67 RX4 yX4_spread wsX4_spread) := goodIn_app (goodIn_of _ (by decide +kernel)) ggX4_areSpent_X4_spread
set_option maxRecDepth 20000 in
theorem ggX4_areSpent_X4_reached : GoodIn wsX4_areSpent wsX4_reached := goodIn_r _ [138, 139, 140, 141, 115, 142, 117, 3, 143, 144, 145, 11, 146, 13, 15, 147, 148, 149, 19, 150, 151, 152, 153, 93, 66, 67, 68, 69, 47, 48, 49, 154, 132, 133, 134, 77, 78, 109, 110, 111, 112, 113, 114, 116, 118, 119, 120, 121, 4, 7, 122, 123, 124, 125, 25, 126, 27, 127, 128, 129, 130, 33, 131, 170, 171, 172, 173, 174, 175, 176, 177, 178, 179, 180, 181, 182, 183, 184, 185, 186, 187, 188, 189, 190, 191, 192, 193, 194, 195, 196, 197] (by decide +kernel) (by decide +kernel)
set_option maxRecDepth 20000 in
theorem gX4_areSpent_X4_reached : GoodIn wsX4_areSpent (wsV RX4 71 RX4 yX4_reached wsX4_reached) := goodIn_app (goodIn_of _ (by decide +kernel)) ggX4_areSpent_X4_reached
set_option maxRecDepth 20000 in
theorem ggX4_areSpent_X4_alone : GoodIn wsX4_areSpent wsX4_alone := goodIn_r _ [142, 117, 3, 143, 144, 145, 11, 146, 13, 15, 147, 148, 149, 19, 150, 151, 152, 153, 93, 66, 67, 68, 69, 47, 48, 49, 154, 132, 133, 134, 77, 78, 109, 110, 111, 170, 171, 172, 173, 174, 175, 176, 177, 178, 179, 180, 181, 182, 183, 184, 185, 186] (by decide +kernel) (by decide +kernel)
set_option maxRecDepth 20000 in
theorem gX4_areSpent_X4_alone : GoodIn wsX4_areSpent (wsV RX4 75 RX4 yX4_alone wsX4_alone) := goodIn_app (goodIn_of _ (by decide +kernel)) ggX4_areSpent_X4_alone
set_option maxRecDepth 20000 in
theorem ggX4_areSpent_X4_sizeFrom : GoodIn wsX4_areSpent wsX4_sizeFrom := goodIn_r _ [158, 7, 117, 123, 124, 125, 25, 126, 27, 159, 160, 161, 115, 162, 122, 163, 164, 165, 166, 167, 168, 169, 170, 171, 172, 173, 174, 175, 176, 177, 178, 187, 188, 189, 190, 191, 192, 193, 194, 195, 196, 197] (by decide +kernel) (by decide +kernel)
set_option maxRecDepth 20000 in
theorem gX4_areSpent_X4_sizeFrom : GoodIn wsX4_areSpent (wsV RX4 78 RX4 yX4_sizeFrom wsX4_sizeFrom) := goodIn_app (goodIn_of _ (by decide +kernel)) ggX4_areSpent_X4_sizeFrom
theorem dX4_areSpent_0 : decode cX4_areSpent 0 = .ok (.aload_n 0, 1) := by decide +kernel
theorem dX4_areSpent_1 : decode cX4_areSpent 1 = .ok (.getfield 22, 3) := by decide +kernel
theorem dX4_areSpent_4 : decode cX4_areSpent 4 = .ok (.ifCond .eq 17, 3) := by decide +kernel
theorem dX4_areSpent_7 : decode cX4_areSpent 7 = .ok (.aload_n 0, 1) := by decide +kernel
theorem dX4_areSpent_8 : decode cX4_areSpent 8 = .ok (.getfield 25, 3) := by decide +kernel
theorem dX4_areSpent_11 : decode cX4_areSpent 11 = .ok (.aload_n 0, 1) := by decide +kernel
theorem dX4_areSpent_12 : decode cX4_areSpent 12 = .ok (.getfield 28, 3) := by decide +kernel
theorem dX4_areSpent_15 : decode cX4_areSpent 15 = .ok (.invokevirtual 54, 3) := by decide +kernel
theorem dX4_areSpent_18 : decode cX4_areSpent 18 = .ok (.if_icmp .eq 114, 3) := by decide +kernel
theorem dX4_areSpent_21 : decode cX4_areSpent 21 = .ok (.aload_n 0, 1) := by decide +kernel
theorem dX4_areSpent_22 : decode cX4_areSpent 22 = .ok (.aload_n 0, 1) := by decide +kernel
theorem dX4_areSpent_23 : decode cX4_areSpent 23 = .ok (.getfield 28, 3) := by decide +kernel
theorem dX4_areSpent_26 : decode cX4_areSpent 26 = .ok (.invokevirtual 54, 3) := by decide +kernel
theorem dX4_areSpent_29 : decode cX4_areSpent 29 = .ok (.putfield 25, 3) := by decide +kernel
theorem dX4_areSpent_32 : decode cX4_areSpent 32 = .ok (.aload_n 0, 1) := by decide +kernel
theorem dX4_areSpent_33 : decode cX4_areSpent 33 = .ok (.dup, 1) := by decide +kernel
theorem dX4_areSpent_34 : decode cX4_areSpent 34 = .ok (.getfield 22, 3) := by decide +kernel
theorem dX4_areSpent_37 : decode cX4_areSpent 37 = .ok (.iconst 1, 1) := by decide +kernel
theorem dX4_areSpent_38 : decode cX4_areSpent 38 = .ok (.iadd, 1) := by decide +kernel
theorem dX4_areSpent_39 : decode cX4_areSpent 39 = .ok (.putfield 22, 3) := by decide +kernel
theorem dX4_areSpent_42 : decode cX4_areSpent 42 = .ok (.aload_n 0, 1) := by decide +kernel
theorem dX4_areSpent_43 : decode cX4_areSpent 43 = .ok (.lconst 0, 1) := by decide +kernel
theorem dX4_areSpent_44 : decode cX4_areSpent 44 = .ok (.putfield 9, 3) := by decide +kernel
theorem dX4_areSpent_47 : decode cX4_areSpent 47 = .ok (.aload_n 0, 1) := by decide +kernel
theorem dX4_areSpent_48 : decode cX4_areSpent 48 = .ok (.lconst 0, 1) := by decide +kernel
theorem dX4_areSpent_49 : decode cX4_areSpent 49 = .ok (.putfield 15, 3) := by decide +kernel
theorem dX4_areSpent_52 : decode cX4_areSpent 52 = .ok (.aload_n 0, 1) := by decide +kernel
theorem dX4_areSpent_53 : decode cX4_areSpent 53 = .ok (.bipush 61, 2) := by decide +kernel
theorem dX4_areSpent_55 : decode cX4_areSpent 55 = .ok (.putfield 18, 3) := by decide +kernel
theorem dX4_areSpent_58 : decode cX4_areSpent 58 = .ok (.aload_n 0, 1) := by decide +kernel
theorem dX4_areSpent_59 : decode cX4_areSpent 59 = .ok (.getfield 37, 3) := by decide +kernel
theorem dX4_areSpent_62 : decode cX4_areSpent 62 = .ok (.invokevirtual 57, 3) := by decide +kernel
theorem dX4_areSpent_65 : decode cX4_areSpent 65 = .ok (.aload_n 0, 1) := by decide +kernel
theorem dX4_areSpent_66 : decode cX4_areSpent 66 = .ok (.getfield 37, 3) := by decide +kernel
theorem dX4_areSpent_69 : decode cX4_areSpent 69 = .ok (.invokevirtual 60, 3) := by decide +kernel
theorem dX4_areSpent_72 : decode cX4_areSpent 72 = .ok (.ifCond .ne 60, 3) := by decide +kernel
theorem dX4_areSpent_75 : decode cX4_areSpent 75 = .ok (.lconst 1, 1) := by decide +kernel
theorem dX4_areSpent_76 : decode cX4_areSpent 76 = .ok (.aload_n 0, 1) := by decide +kernel
theorem dX4_areSpent_77 : decode cX4_areSpent 77 = .ok (.getfield 28, 3) := by decide +kernel
theorem dX4_areSpent_80 : decode cX4_areSpent 80 = .ok (.invokevirtual 64, 3) := by decide +kernel
theorem dX4_areSpent_83 : decode cX4_areSpent 83 = .ok (.lshl, 1) := by decide +kernel
theorem dX4_areSpent_84 : decode cX4_areSpent 84 = .ok (.lstore_n 1, 1) := by decide +kernel
theorem dX4_areSpent_85 : decode cX4_areSpent 85 = .ok (.aload_n 0, 1) := by decide +kernel
theorem dX4_areSpent_86 : decode cX4_areSpent 86 = .ok (.aload_n 0, 1) := by decide +kernel
theorem dX4_areSpent_87 : decode cX4_areSpent 87 = .ok (.lload_n 1, 1) := by decide +kernel
theorem dX4_areSpent_88 : decode cX4_areSpent 88 = .ok (.invokevirtual 67, 3) := by decide +kernel
theorem dX4_areSpent_91 : decode cX4_areSpent 91 = .ok (.iconst 4, 1) := by decide +kernel
theorem dX4_areSpent_92 : decode cX4_areSpent 92 = .ok (.invokevirtual 71, 3) := by decide +kernel
theorem dX4_areSpent_95 : decode cX4_areSpent 95 = .ok (.lstore_n 3, 1) := by decide +kernel
theorem dX4_areSpent_96 : decode cX4_areSpent 96 = .ok (.aload_n 0, 1) := by decide +kernel
theorem dX4_areSpent_97 : decode cX4_areSpent 97 = .ok (.aload_n 0, 1) := by decide +kernel
theorem dX4_areSpent_98 : decode cX4_areSpent 98 = .ok (.lload_n 3, 1) := by decide +kernel
theorem dX4_areSpent_99 : decode cX4_areSpent 99 = .ok (.iconst 0, 1) := by decide +kernel
theorem dX4_areSpent_100 : decode cX4_areSpent 100 = .ok (.invokevirtual 71, 3) := by decide +kernel
theorem dX4_areSpent_103 : decode cX4_areSpent 103 = .ok (.putfield 15, 3) := by decide +kernel
theorem dX4_areSpent_106 : decode cX4_areSpent 106 = .ok (.aload_n 0, 1) := by decide +kernel
theorem dX4_areSpent_107 : decode cX4_areSpent 107 = .ok (.aload_n 0, 1) := by decide +kernel
theorem dX4_areSpent_108 : decode cX4_areSpent 108 = .ok (.lload_n 1, 1) := by decide +kernel
theorem dX4_areSpent_109 : decode cX4_areSpent 109 = .ok (.aload_n 0, 1) := by decide +kernel
theorem dX4_areSpent_110 : decode cX4_areSpent 110 = .ok (.lload_n 3, 1) := by decide +kernel
theorem dX4_areSpent_111 : decode cX4_areSpent 111 = .ok (.iconst 4, 1) := by decide +kernel
theorem dX4_areSpent_112 : decode cX4_areSpent 112 = .ok (.invokevirtual 75, 3) := by decide +kernel
theorem dX4_areSpent_115 : decode cX4_areSpent 115 = .ok (.lor, 1) := by decide +kernel
theorem dX4_areSpent_116 : decode cX4_areSpent 116 = .ok (.aload_n 0, 1) := by decide +kernel
theorem dX4_areSpent_117 : decode cX4_areSpent 117 = .ok (.aload_n 0, 1) := by decide +kernel
theorem dX4_areSpent_118 : decode cX4_areSpent 118 = .ok (.getfield 15, 3) := by decide +kernel
theorem dX4_areSpent_121 : decode cX4_areSpent 121 = .ok (.iconst 0, 1) := by decide +kernel
theorem dX4_areSpent_122 : decode cX4_areSpent 122 = .ok (.invokevirtual 75, 3) := by decide +kernel
theorem dX4_areSpent_125 : decode cX4_areSpent 125 = .ok (.lor, 1) := by decide +kernel
theorem dX4_areSpent_126 : decode cX4_areSpent 126 = .ok (.invokevirtual 78, 3) := by decide +kernel
theorem dX4_areSpent_129 : decode cX4_areSpent 129 = .ok (.putfield 18, 3) := by decide +kernel
theorem dX4_areSpent_132 : decode cX4_areSpent 132 = .ok (.aload_n 0, 1) := by decide +kernel
theorem dX4_areSpent_133 : decode cX4_areSpent 133 = .ok (.getfield 18, 3) := by decide +kernel
theorem dX4_areSpent_136 : decode cX4_areSpent 136 = .ok (.bipush 60, 2) := by decide +kernel
theorem dX4_areSpent_138 : decode cX4_areSpent 138 = .ok (.if_icmp .le 7, 3) := by decide +kernel
theorem dX4_areSpent_141 : decode cX4_areSpent 141 = .ok (.iconst 1, 1) := by decide +kernel
theorem dX4_areSpent_142 : decode cX4_areSpent 142 = .ok (.goto 4, 3) := by decide +kernel
theorem dX4_areSpent_145 : decode cX4_areSpent 145 = .ok (.iconst 0, 1) := by decide +kernel
theorem dX4_areSpent_146 : decode cX4_areSpent 146 = .ok (.ireturn, 1) := by decide +kernel
theorem dX4_image_0 : decode cX4_image 0 = .ok (.iload_n 1, 1) := by decide +kernel
theorem dX4_image_1 : decode cX4_image 1 = .ok (.bipush 60, 2) := by decide +kernel
theorem dX4_image_3 : decode cX4_image 3 = .ok (.imul, 1) := by decide +kernel
theorem dX4_image_4 : decode cX4_image 4 = .ok (.iload_n 2, 1) := by decide +kernel
theorem dX4_image_5 : decode cX4_image 5 = .ok (.iadd, 1) := by decide +kernel
theorem dX4_image_6 : decode cX4_image 6 = .ok (.istore_n 3, 1) := by decide +kernel
theorem dX4_image_7 : decode cX4_image 7 = .ok (.iload_n 3, 1) := by decide +kernel
theorem dX4_image_8 : decode cX4_image 8 = .ok (.ifCond .lt 21, 3) := by decide +kernel
theorem dX4_image_11 : decode cX4_image 11 = .ok (.iload_n 3, 1) := by decide +kernel
theorem dX4_image_12 : decode cX4_image 12 = .ok (.aload_n 0, 1) := by decide +kernel
theorem dX4_image_13 : decode cX4_image 13 = .ok (.getfield 46, 3) := by decide +kernel
theorem dX4_image_16 : decode cX4_image 16 = .ok (.arraylength, 1) := by decide +kernel
theorem dX4_image_17 : decode cX4_image 17 = .ok (.if_icmp .ge 12, 3) := by decide +kernel
theorem dX4_image_20 : decode cX4_image 20 = .ok (.aload_n 0, 1) := by decide +kernel
theorem dX4_image_21 : decode cX4_image 21 = .ok (.getfield 46, 3) := by decide +kernel
theorem dX4_image_24 : decode cX4_image 24 = .ok (.iload_n 3, 1) := by decide +kernel
theorem dX4_image_25 : decode cX4_image 25 = .ok (.iaload, 1) := by decide +kernel
theorem dX4_image_26 : decode cX4_image 26 = .ok (.goto 4, 3) := by decide +kernel
theorem dX4_image_29 : decode cX4_image 29 = .ok (.iconst 0, 1) := by decide +kernel
theorem dX4_image_30 : decode cX4_image 30 = .ok (.ireturn, 1) := by decide +kernel
set_option maxRecDepth 20000 in
theorem ggX4_codesAhead_X9_sinceAt : GoodIn wsX4_codesAhead wsX9_sinceAt := goodIn_r _ [6, 7, 153, 154, 155] (by decide +kernel) (by decide +kernel)
set_option maxRecDepth 20000 in
theorem gX4_codesAhead_X9_sinceAt : GoodIn wsX4_codesAhead (wsV RX4 82 RX9 yX9_sinceAt wsX9_sinceAt) := goodIn_app (goodIn_of _ (by decide +kernel)) ggX4_codesAhead_X9_sinceAt
set_option maxRecDepth 20000 in
theorem ggX4_codesAhead_X10_find : GoodIn wsX4_codesAhead wsX10_find := goodIn_r _ [12, 13, 14, 15, 16, 11, 17, 18, 19, 156, 157, 158, 159, 160, 161, 162, 163, 164, 165, 166] (by decide +kernel) (by decide +kernel)
set_option maxRecDepth 20000 in
theorem gX4_codesAhead_X10_find : GoodIn wsX4_codesAhead (wsV RX4 88 RX10 yX10_find wsX10_find) := goodIn_app (goodIn_of _ (by decide +kernel)) ggX4_codesAhead_X10_find
set_option maxRecDepth 20000 in
theorem ggX4_codesAhead_X4_bit : GoodIn wsX4_codesAhead wsX4_bit := goodIn_r _ [23] (by decide +kernel) (by decide +kernel)
set_option maxRecDepth 20000 in
theorem gX4_codesAhead_X4_bit : GoodIn wsX4_codesAhead (va_wsS RX4 91 yX4_bit wsX4_bit) := goodIn_app (goodIn_of _ (by decide +kernel)) ggX4_codesAhead_X4_bit
set_option maxRecDepth 20000 in
theorem ggX4_codesAhead_X10_reached : GoodIn wsX4_codesAhead wsX10_reached := goodIn_r _ [27, 28, 29, 30, 31, 11, 32, 33, 34, 35, 36, 37, 38, 156, 157, 158, 159, 160, 161, 162, 163, 164, 165, 166] (by decide +kernel) (by decide +kernel)
set_option maxRecDepth 20000 in
theorem gX4_codesAhead_X10_reached : GoodIn wsX4_codesAhead (wsV RX4 95 RX10 yX10_reached wsX10_reached) := goodIn_app (goodIn_of _ (by decide +kernel)) ggX4_codesAhead_X10_reached
set_option maxRecDepth 20000 in
theorem ggX4_codesAhead_X6_baseAt : GoodIn wsX4_codesAhead wsX6_baseAt := goodIn_r _ [43, 44, 45, 167, 168, 169] (by decide +kernel) (by decide +kernel)
set_option maxRecDepth 20000 in
theorem gX4_codesAhead_X6_baseAt : GoodIn wsX4_codesAhead (wsV RX4 97 RX6 yX6_baseAt wsX6_baseAt) := goodIn_app (goodIn_of _ (by decide +kernel)) ggX4_codesAhead_X6_baseAt
set_option maxRecDepth 20000 in
theorem ggX4_codesAhead_X9_comeAt : GoodIn wsX4_codesAhead wsX9_comeAt := goodIn_r _ [49, 50, 153, 154, 155] (by decide +kernel) (by decide +kernel)
set_option maxRecDepth 20000 in
theorem gX4_codesAhead_X9_comeAt : GoodIn wsX4_codesAhead (wsV RX4 102 RX9 yX9_comeAt wsX9_comeAt) := goodIn_app (goodIn_of _ (by decide +kernel)) ggX4_codesAhead_X9_comeAt
set_option maxRecDepth 20000 in
theorem ggX4_codesAhead_X4_codesFrom : GoodIn wsX4_codesAhead wsX4_codesFrom := goodIn_r _ [54, 1, 55, 56, 57, 11, 58, 28, 59, 60, 61, 22, 62, 63, 144, 145, 146, 147, 148, 149, 150, 151, 152, 156, 157, 158, 159, 160, 161, 162, 163, 164, 165, 166] (by decide +kernel) (by decide +kernel)
set_option maxRecDepth 20000 in
theorem gX4_codesAhead_X4_codesFrom : GoodIn wsX4_codesAhead (wsV RX4 105 RX4 yX4_codesFrom wsX4_codesFrom) := goodIn_app (goodIn_of _ (by decide +kernel)) ggX4_codesAhead_X4_codesFrom
set_option maxRecDepth 20000 in
theorem ggX4_codesAhead_X6_openAt : GoodIn wsX4_codesAhead wsX6_openAt := goodIn_r _ [67, 68, 40, 41, 42, 43, 44, 45, 69, 70, 71, 72, 73, 74, 75, 76, 77, 167, 168, 169] (by decide +kernel) (by decide +kernel)
set_option maxRecDepth 20000 in
theorem gX4_codesAhead_X6_openAt : GoodIn wsX4_codesAhead (wsV RX4 109 RX6 yX6_openAt wsX6_openAt) := goodIn_app (goodIn_of _ (by decide +kernel)) ggX4_codesAhead_X6_openAt
set_option maxRecDepth 20000 in
theorem ggX4_codesAhead_X4_reached : GoodIn wsX4_codesAhead wsX4_reached := goodIn_r _ [81, 82, 83, 84, 22, 85, 86, 87, 88, 89, 90, 91, 92, 93, 94, 95, 96, 97, 76, 98, 99, 100, 101, 102, 103, 104, 105, 106, 107, 108, 109, 110, 111, 112, 113, 114, 115, 116, 117, 118, 119, 120, 121, 122, 123, 124, 125, 126, 127, 1, 63, 55, 56, 57, 11, 58, 28, 128, 129, 130, 131, 19, 132, 144, 145, 146, 147, 148, 149, 150, 151, 152, 170, 171, 172, 173, 174, 175, 176, 177, 156, 157, 158, 159, 160, 161, 162, 163, 164, 165, 166] (by decide +kernel) (by decide +kernel)
set_option maxRecDepth 20000 in
theorem gX4_codesAhead_X4_reached : GoodIn wsX4_codesAhead (wsV RX4 71 RX4 yX4_reached wsX4_reached) := goodIn_app (goodIn_of _ (by decide +kernel)) ggX4_codesAhead_X4_reached
set_option maxRecDepth 20000 in
theorem ggX4_codesAhead_X6_letterAt : GoodIn wsX4_codesAhead wsX6_letterAt := goodIn_r _ [72, 44, 73, 167, 168, 169] (by decide +kernel) (by decide +kernel)
set_option maxRecDepth 20000 in
theorem gX4_codesAhead_X6_letterAt : GoodIn wsX4_codesAhead (wsV RX4 112 RX6 yX6_letterAt wsX6_letterAt) := goodIn_app (goodIn_of _ (by decide +kernel)) ggX4_codesAhead_X6_letterAt
set_option maxRecDepth 20000 in
theorem ggX4_codesAhead_X4_closedAround : GoodIn wsX4_codesAhead wsX4_closedAround := goodIn_r _ [137, 1, 55, 56, 57, 11, 58, 28, 138, 139, 140, 141, 142, 143, 35, 36, 37, 33, 38, 20, 21, 22, 23, 144, 145, 146, 147, 148, 149, 150, 151, 152, 156, 157, 158, 159, 160, 161, 162, 163, 164, 165, 166] (by decide +kernel) (by decide +kernel)
set_option maxRecDepth 20000 in
theorem gX4_codesAhead_X4_closedAround : GoodIn wsX4_codesAhead (wsV RX4 115 RX4 yX4_closedAround wsX4_closedAround) := goodIn_app (goodIn_of _ (by decide +kernel)) ggX4_codesAhead_X4_closedAround
theorem dX4_codesAhead_0 : decode cX4_codesAhead 0 = .ok (.lconst 0, 1) := by decide +kernel
theorem dX4_codesAhead_1 : decode cX4_codesAhead 1 = .ok (.lstore 4, 2) := by decide +kernel
theorem dX4_codesAhead_3 : decode cX4_codesAhead 3 = .ok (.iload_n 3, 1) := by decide +kernel
theorem dX4_codesAhead_4 : decode cX4_codesAhead 4 = .ok (.istore 6, 2) := by decide +kernel
theorem dX4_codesAhead_6 : decode cX4_codesAhead 6 = .ok (.aload_n 0, 1) := by decide +kernel
theorem dX4_codesAhead_7 : decode cX4_codesAhead 7 = .ok (.getfield 37, 3) := by decide +kernel
theorem dX4_codesAhead_10 : decode cX4_codesAhead 10 = .ok (.aload_n 1, 1) := by decide +kernel
theorem dX4_codesAhead_11 : decode cX4_codesAhead 11 = .ok (.iload 6, 2) := by decide +kernel
theorem dX4_codesAhead_13 : decode cX4_codesAhead 13 = .ok (.invokevirtual 82, 3) := by decide +kernel
theorem dX4_codesAhead_16 : decode cX4_codesAhead 16 = .ok (.invokevirtual 88, 3) := by decide +kernel
theorem dX4_codesAhead_19 : decode cX4_codesAhead 19 = .ok (.invokestatic 91, 3) := by decide +kernel
theorem dX4_codesAhead_22 : decode cX4_codesAhead 22 = .ok (.lstore 7, 2) := by decide +kernel
theorem dX4_codesAhead_24 : decode cX4_codesAhead 24 = .ok (.iconst 0, 1) := by decide +kernel
theorem dX4_codesAhead_25 : decode cX4_codesAhead 25 = .ok (.istore 9, 2) := by decide +kernel
theorem dX4_codesAhead_27 : decode cX4_codesAhead 27 = .ok (.iload 9, 2) := by decide +kernel
theorem dX4_codesAhead_29 : decode cX4_codesAhead 29 = .ok (.bipush 24, 2) := by decide +kernel
theorem dX4_codesAhead_31 : decode cX4_codesAhead 31 = .ok (.if_icmp .gt 105, 3) := by decide +kernel
theorem dX4_codesAhead_34 : decode cX4_codesAhead 34 = .ok (.aload_n 0, 1) := by decide +kernel
theorem dX4_codesAhead_35 : decode cX4_codesAhead 35 = .ok (.getfield 37, 3) := by decide +kernel
theorem dX4_codesAhead_38 : decode cX4_codesAhead 38 = .ok (.lload 7, 2) := by decide +kernel
theorem dX4_codesAhead_40 : decode cX4_codesAhead 40 = .ok (.invokevirtual 95, 3) := by decide +kernel
theorem dX4_codesAhead_43 : decode cX4_codesAhead 43 = .ok (.lstore 7, 2) := by decide +kernel
theorem dX4_codesAhead_45 : decode cX4_codesAhead 45 = .ok (.aload_n 0, 1) := by decide +kernel
theorem dX4_codesAhead_46 : decode cX4_codesAhead 46 = .ok (.aload_n 1, 1) := by decide +kernel
theorem dX4_codesAhead_47 : decode cX4_codesAhead 47 = .ok (.aload_n 2, 1) := by decide +kernel
theorem dX4_codesAhead_48 : decode cX4_codesAhead 48 = .ok (.iload 6, 2) := by decide +kernel
theorem dX4_codesAhead_50 : decode cX4_codesAhead 50 = .ok (.invokevirtual 97, 3) := by decide +kernel
theorem dX4_codesAhead_53 : decode cX4_codesAhead 53 = .ok (.invokevirtual 102, 3) := by decide +kernel
theorem dX4_codesAhead_56 : decode cX4_codesAhead 56 = .ok (.lload 7, 2) := by decide +kernel
theorem dX4_codesAhead_58 : decode cX4_codesAhead 58 = .ok (.invokevirtual 105, 3) := by decide +kernel
theorem dX4_codesAhead_61 : decode cX4_codesAhead 61 = .ok (.lstore 10, 2) := by decide +kernel
theorem dX4_codesAhead_63 : decode cX4_codesAhead 63 = .ok (.aload_n 2, 1) := by decide +kernel
theorem dX4_codesAhead_64 : decode cX4_codesAhead 64 = .ok (.iload 6, 2) := by decide +kernel
theorem dX4_codesAhead_66 : decode cX4_codesAhead 66 = .ok (.invokevirtual 109, 3) := by decide +kernel
theorem dX4_codesAhead_69 : decode cX4_codesAhead 69 = .ok (.istore 12, 2) := by decide +kernel
theorem dX4_codesAhead_71 : decode cX4_codesAhead 71 = .ok (.iload 12, 2) := by decide +kernel
theorem dX4_codesAhead_73 : decode cX4_codesAhead 73 = .ok (.iconst (-1), 1) := by decide +kernel
theorem dX4_codesAhead_74 : decode cX4_codesAhead 74 = .ok (.if_icmp .ne 18, 3) := by decide +kernel
theorem dX4_codesAhead_77 : decode cX4_codesAhead 77 = .ok (.lload 4, 2) := by decide +kernel
theorem dX4_codesAhead_79 : decode cX4_codesAhead 79 = .ok (.aload_n 0, 1) := by decide +kernel
theorem dX4_codesAhead_80 : decode cX4_codesAhead 80 = .ok (.lload 10, 2) := by decide +kernel
theorem dX4_codesAhead_82 : decode cX4_codesAhead 82 = .ok (.iconst 4, 1) := by decide +kernel
theorem dX4_codesAhead_83 : decode cX4_codesAhead 83 = .ok (.invokevirtual 71, 3) := by decide +kernel
theorem dX4_codesAhead_86 : decode cX4_codesAhead 86 = .ok (.lor, 1) := by decide +kernel
theorem dX4_codesAhead_87 : decode cX4_codesAhead 87 = .ok (.lstore 4, 2) := by decide +kernel
theorem dX4_codesAhead_89 : decode cX4_codesAhead 89 = .ok (.goto 47, 3) := by decide +kernel
theorem dX4_codesAhead_92 : decode cX4_codesAhead 92 = .ok (.lload 4, 2) := by decide +kernel
theorem dX4_codesAhead_94 : decode cX4_codesAhead 94 = .ok (.lload 10, 2) := by decide +kernel
theorem dX4_codesAhead_96 : decode cX4_codesAhead 96 = .ok (.lor, 1) := by decide +kernel
theorem dX4_codesAhead_97 : decode cX4_codesAhead 97 = .ok (.lstore 4, 2) := by decide +kernel
theorem dX4_codesAhead_99 : decode cX4_codesAhead 99 = .ok (.aload_n 0, 1) := by decide +kernel
theorem dX4_codesAhead_100 : decode cX4_codesAhead 100 = .ok (.aload_n 2, 1) := by decide +kernel
theorem dX4_codesAhead_101 : decode cX4_codesAhead 101 = .ok (.iload 12, 2) := by decide +kernel
theorem dX4_codesAhead_103 : decode cX4_codesAhead 103 = .ok (.invokevirtual 112, 3) := by decide +kernel
theorem dX4_codesAhead_106 : decode cX4_codesAhead 106 = .ok (.aload_n 0, 1) := by decide +kernel
theorem dX4_codesAhead_107 : decode cX4_codesAhead 107 = .ok (.getfield 37, 3) := by decide +kernel
theorem dX4_codesAhead_110 : decode cX4_codesAhead 110 = .ok (.aload_n 1, 1) := by decide +kernel
theorem dX4_codesAhead_111 : decode cX4_codesAhead 111 = .ok (.iload 12, 2) := by decide +kernel
theorem dX4_codesAhead_113 : decode cX4_codesAhead 113 = .ok (.invokevirtual 82, 3) := by decide +kernel
theorem dX4_codesAhead_116 : decode cX4_codesAhead 116 = .ok (.invokevirtual 88, 3) := by decide +kernel
theorem dX4_codesAhead_119 : decode cX4_codesAhead 119 = .ok (.lload 7, 2) := by decide +kernel
theorem dX4_codesAhead_121 : decode cX4_codesAhead 121 = .ok (.invokevirtual 115, 3) := by decide +kernel
theorem dX4_codesAhead_124 : decode cX4_codesAhead 124 = .ok (.lstore 7, 2) := by decide +kernel
theorem dX4_codesAhead_126 : decode cX4_codesAhead 126 = .ok (.iload 12, 2) := by decide +kernel
theorem dX4_codesAhead_128 : decode cX4_codesAhead 128 = .ok (.istore 6, 2) := by decide +kernel
theorem dX4_codesAhead_130 : decode cX4_codesAhead 130 = .ok (.iinc 9 1, 3) := by decide +kernel
theorem dX4_codesAhead_133 : decode cX4_codesAhead 133 = .ok (.goto (-106), 3) := by decide +kernel
theorem dX4_codesAhead_136 : decode cX4_codesAhead 136 = .ok (.aload_n 0, 1) := by decide +kernel
theorem dX4_codesAhead_137 : decode cX4_codesAhead 137 = .ok (.lload 4, 2) := by decide +kernel
theorem dX4_codesAhead_139 : decode cX4_codesAhead 139 = .ok (.iconst 0, 1) := by decide +kernel
theorem dX4_codesAhead_140 : decode cX4_codesAhead 140 = .ok (.invokevirtual 71, 3) := by decide +kernel
theorem dX4_codesAhead_143 : decode cX4_codesAhead 143 = .ok (.lreturn, 1) := by decide +kernel
set_option maxRecDepth 20000 in
theorem ggX4_sizeFrom_X10_size : GoodIn wsX4_sizeFrom wsX10_size := goodIn_r _ [7, 8, 31, 32, 33, 34, 35, 36, 37, 38, 39, 40, 41] (by decide +kernel) (by decide +kernel)
set_option maxRecDepth 20000 in
theorem gX4_sizeFrom_X10_size : GoodIn wsX4_sizeFrom (wsV RX4 119 RX10 yX10_size wsX10_size) := goodIn_app (goodIn_of _ (by decide +kernel)) ggX4_sizeFrom_X10_size
set_option maxRecDepth 20000 in
theorem ggX4_sizeFrom_X4_image : GoodIn wsX4_sizeFrom wsX4_image := goodIn_r _ [13, 14, 22, 23, 24, 25, 26, 27, 28, 29, 30] (by decide +kernel) (by decide +kernel)
set_option maxRecDepth 20000 in
theorem gX4_sizeFrom_X4_image : GoodIn wsX4_sizeFrom (wsV RX4 121 RX4 yX4_image wsX4_image) := goodIn_app (goodIn_of _ (by decide +kernel)) ggX4_sizeFrom_X4_image
set_option maxRecDepth 20000 in
theorem ggX4_sizeFrom_J13_bitCount_95d88 : GoodIn wsX4_sizeFrom wsJ13_bitCount_95d88 := goodIn_r _ [18, 19, 20, 21] (by decide +kernel) (by decide +kernel)
set_option maxRecDepth 20000 in
theorem gX4_sizeFrom_J13_bitCount_95d88 : GoodIn wsX4_sizeFrom (va_wsS RX4 125 yJ13_bitCount_95d88 wsJ13_bitCount_95d88) := goodIn_app (goodIn_of _ (by decide +kernel)) ggX4_sizeFrom_J13_bitCount_95d88
theorem dX4_sizeFrom_0 : decode cX4_sizeFrom 0 = .ok (.iconst 0, 1) := by decide +kernel
theorem dX4_sizeFrom_1 : decode cX4_sizeFrom 1 = .ok (.istore_n 3, 1) := by decide +kernel
theorem dX4_sizeFrom_2 : decode cX4_sizeFrom 2 = .ok (.iconst 0, 1) := by decide +kernel
theorem dX4_sizeFrom_3 : decode cX4_sizeFrom 3 = .ok (.istore 4, 2) := by decide +kernel
theorem dX4_sizeFrom_5 : decode cX4_sizeFrom 5 = .ok (.iload 4, 2) := by decide +kernel
theorem dX4_sizeFrom_7 : decode cX4_sizeFrom 7 = .ok (.aload_n 0, 1) := by decide +kernel
theorem dX4_sizeFrom_8 : decode cX4_sizeFrom 8 = .ok (.getfield 37, 3) := by decide +kernel
theorem dX4_sizeFrom_11 : decode cX4_sizeFrom 11 = .ok (.invokevirtual 119, 3) := by decide +kernel
theorem dX4_sizeFrom_14 : decode cX4_sizeFrom 14 = .ok (.if_icmp .ge 65, 3) := by decide +kernel
theorem dX4_sizeFrom_17 : decode cX4_sizeFrom 17 = .ok (.lconst 0, 1) := by decide +kernel
theorem dX4_sizeFrom_18 : decode cX4_sizeFrom 18 = .ok (.lstore 5, 2) := by decide +kernel
theorem dX4_sizeFrom_20 : decode cX4_sizeFrom 20 = .ok (.iconst 0, 1) := by decide +kernel
theorem dX4_sizeFrom_21 : decode cX4_sizeFrom 21 = .ok (.istore 7, 2) := by decide +kernel
theorem dX4_sizeFrom_23 : decode cX4_sizeFrom 23 = .ok (.iload 7, 2) := by decide +kernel
theorem dX4_sizeFrom_25 : decode cX4_sizeFrom 25 = .ok (.aload_n 0, 1) := by decide +kernel
theorem dX4_sizeFrom_26 : decode cX4_sizeFrom 26 = .ok (.getfield 50, 3) := by decide +kernel
theorem dX4_sizeFrom_29 : decode cX4_sizeFrom 29 = .ok (.arraylength, 1) := by decide +kernel
theorem dX4_sizeFrom_30 : decode cX4_sizeFrom 30 = .ok (.if_icmp .ge 35, 3) := by decide +kernel
theorem dX4_sizeFrom_33 : decode cX4_sizeFrom 33 = .ok (.lload_n 1, 1) := by decide +kernel
theorem dX4_sizeFrom_34 : decode cX4_sizeFrom 34 = .ok (.iload 7, 2) := by decide +kernel
theorem dX4_sizeFrom_36 : decode cX4_sizeFrom 36 = .ok (.lshr, 1) := by decide +kernel
theorem dX4_sizeFrom_37 : decode cX4_sizeFrom 37 = .ok (.lconst 1, 1) := by decide +kernel
theorem dX4_sizeFrom_38 : decode cX4_sizeFrom 38 = .ok (.land, 1) := by decide +kernel
theorem dX4_sizeFrom_39 : decode cX4_sizeFrom 39 = .ok (.lconst 0, 1) := by decide +kernel
theorem dX4_sizeFrom_40 : decode cX4_sizeFrom 40 = .ok (.lcmp, 1) := by decide +kernel
theorem dX4_sizeFrom_41 : decode cX4_sizeFrom 41 = .ok (.ifCond .eq 18, 3) := by decide +kernel
theorem dX4_sizeFrom_44 : decode cX4_sizeFrom 44 = .ok (.lload 5, 2) := by decide +kernel
theorem dX4_sizeFrom_46 : decode cX4_sizeFrom 46 = .ok (.lconst 1, 1) := by decide +kernel
theorem dX4_sizeFrom_47 : decode cX4_sizeFrom 47 = .ok (.aload_n 0, 1) := by decide +kernel
theorem dX4_sizeFrom_48 : decode cX4_sizeFrom 48 = .ok (.iload 7, 2) := by decide +kernel
theorem dX4_sizeFrom_50 : decode cX4_sizeFrom 50 = .ok (.iload 4, 2) := by decide +kernel
theorem dX4_sizeFrom_52 : decode cX4_sizeFrom 52 = .ok (.invokevirtual 121, 3) := by decide +kernel
theorem dX4_sizeFrom_55 : decode cX4_sizeFrom 55 = .ok (.lshl, 1) := by decide +kernel
theorem dX4_sizeFrom_56 : decode cX4_sizeFrom 56 = .ok (.lor, 1) := by decide +kernel
theorem dX4_sizeFrom_57 : decode cX4_sizeFrom 57 = .ok (.lstore 5, 2) := by decide +kernel
theorem dX4_sizeFrom_59 : decode cX4_sizeFrom 59 = .ok (.iinc 7 1, 3) := by decide +kernel
theorem dX4_sizeFrom_62 : decode cX4_sizeFrom 62 = .ok (.goto (-39), 3) := by decide +kernel
theorem dX4_sizeFrom_65 : decode cX4_sizeFrom 65 = .ok (.iload_n 3, 1) := by decide +kernel
theorem dX4_sizeFrom_66 : decode cX4_sizeFrom 66 = .ok (.lload 5, 2) := by decide +kernel
theorem dX4_sizeFrom_68 : decode cX4_sizeFrom 68 = .ok (.invokestatic 125, 3) := by decide +kernel
theorem dX4_sizeFrom_71 : decode cX4_sizeFrom 71 = .ok (.iadd, 1) := by decide +kernel
theorem dX4_sizeFrom_72 : decode cX4_sizeFrom 72 = .ok (.istore_n 3, 1) := by decide +kernel
theorem dX4_sizeFrom_73 : decode cX4_sizeFrom 73 = .ok (.iinc 4 1, 3) := by decide +kernel
theorem dX4_sizeFrom_76 : decode cX4_sizeFrom 76 = .ok (.goto (-71), 3) := by decide +kernel
theorem dX4_sizeFrom_79 : decode cX4_sizeFrom 79 = .ok (.iload_n 3, 1) := by decide +kernel
theorem dX4_sizeFrom_80 : decode cX4_sizeFrom 80 = .ok (.ireturn, 1) := by decide +kernel
set_option maxRecDepth 20000 in
theorem ggX4_reached_X4_alone : GoodIn wsX4_reached wsX4_alone := goodIn_r _ [5, 6, 7, 8, 9, 10, 11, 12, 13, 14, 15, 16, 17, 18, 19, 20, 21, 22, 23, 24, 25, 26, 27, 28, 29, 30, 31, 32, 33, 34, 35, 36, 37, 38, 39, 63, 64, 65, 66, 67, 68, 69, 70, 71, 72, 73, 74, 75, 76, 77, 78, 79] (by decide +kernel) (by decide +kernel)
set_option maxRecDepth 20000 in
theorem gX4_reached_X4_alone : GoodIn wsX4_reached (wsV RX4 75 RX4 yX4_alone wsX4_alone) := goodIn_app (goodIn_of _ (by decide +kernel)) ggX4_reached_X4_alone
set_option maxRecDepth 20000 in
theorem ggX4_reached_X4_spread : GoodIn wsX4_reached wsX4_spread := goodIn_r _ [43, 6, 44, 45, 46, 4, 47, 48, 49, 50, 51, 52, 53, 54, 55, 56, 57, 58, 59, 60, 61, 62, 32, 11, 33, 34, 35, 18, 36, 37, 38, 39, 63, 64, 65, 66, 67, 68, 69, 70, 71, 80, 81, 82, 83, 84, 85, 86, 87, 88, 89, 90] (by decide +kernel) (by decide +kernel)
set_option maxRecDepth 20000 in
theorem gX4_reached_X4_spread : GoodIn wsX4_reached (wsV RX4 67 RX4 yX4_spread wsX4_spread) := goodIn_app (goodIn_of _ (by decide +kernel)) ggX4_reached_X4_spread
theorem dX4_reached_0 : decode cX4_reached 0 = .ok (.lload_n 1, 1) := by decide +kernel
theorem dX4_reached_1 : decode cX4_reached 1 = .ok (.lstore 4, 2) := by decide +kernel
theorem dX4_reached_3 : decode cX4_reached 3 = .ok (.iconst 0, 1) := by decide +kernel
theorem dX4_reached_4 : decode cX4_reached 4 = .ok (.istore 6, 2) := by decide +kernel
theorem dX4_reached_6 : decode cX4_reached 6 = .ok (.iload 6, 2) := by decide +kernel
theorem dX4_reached_8 : decode cX4_reached 8 = .ok (.bipush 64, 2) := by decide +kernel
theorem dX4_reached_10 : decode cX4_reached 10 = .ok (.if_icmp .ge 40, 3) := by decide +kernel
theorem dX4_reached_13 : decode cX4_reached 13 = .ok (.lload 4, 2) := by decide +kernel
theorem dX4_reached_15 : decode cX4_reached 15 = .ok (.aload_n 0, 1) := by decide +kernel
theorem dX4_reached_16 : decode cX4_reached 16 = .ok (.aload_n 0, 1) := by decide +kernel
theorem dX4_reached_17 : decode cX4_reached 17 = .ok (.lload 4, 2) := by decide +kernel
theorem dX4_reached_19 : decode cX4_reached 19 = .ok (.iload_n 3, 1) := by decide +kernel
theorem dX4_reached_20 : decode cX4_reached 20 = .ok (.invokevirtual 75, 3) := by decide +kernel
theorem dX4_reached_23 : decode cX4_reached 23 = .ok (.invokevirtual 67, 3) := by decide +kernel
theorem dX4_reached_26 : decode cX4_reached 26 = .ok (.lor, 1) := by decide +kernel
theorem dX4_reached_27 : decode cX4_reached 27 = .ok (.lstore 7, 2) := by decide +kernel
theorem dX4_reached_29 : decode cX4_reached 29 = .ok (.lload 7, 2) := by decide +kernel
theorem dX4_reached_31 : decode cX4_reached 31 = .ok (.lload 4, 2) := by decide +kernel
theorem dX4_reached_33 : decode cX4_reached 33 = .ok (.lcmp, 1) := by decide +kernel
theorem dX4_reached_34 : decode cX4_reached 34 = .ok (.ifCond .ne 6, 3) := by decide +kernel
theorem dX4_reached_37 : decode cX4_reached 37 = .ok (.lload 4, 2) := by decide +kernel
theorem dX4_reached_39 : decode cX4_reached 39 = .ok (.lreturn, 1) := by decide +kernel
theorem dX4_reached_40 : decode cX4_reached 40 = .ok (.lload 7, 2) := by decide +kernel
theorem dX4_reached_42 : decode cX4_reached 42 = .ok (.lstore 4, 2) := by decide +kernel
theorem dX4_reached_44 : decode cX4_reached 44 = .ok (.iinc 6 1, 3) := by decide +kernel
theorem dX4_reached_47 : decode cX4_reached 47 = .ok (.goto (-41), 3) := by decide +kernel
theorem dX4_reached_50 : decode cX4_reached 50 = .ok (.lload 4, 2) := by decide +kernel
theorem dX4_reached_52 : decode cX4_reached 52 = .ok (.lreturn, 1) := by decide +kernel
set_option maxRecDepth 20000 in
theorem ggX4_alone_X1_alone : GoodIn wsX4_alone wsX1_alone := goodIn_r _ [7, 8, 9, 10, 11, 12, 13, 14, 15, 16, 17, 18, 19, 20, 21, 22, 23, 24, 6, 25, 26, 27, 28, 29, 30, 31, 32, 33, 34, 44, 45, 46, 47, 48, 49, 50, 51] (by decide +kernel) (by decide +kernel)
set_option maxRecDepth 20000 in
theorem gX4_alone_X1_alone : GoodIn wsX4_alone (wsV RX4 130 RX1 yX1_alone wsX1_alone) := goodIn_app (goodIn_of _ (by decide +kernel)) ggX4_alone_X1_alone
theorem dX4_alone_0 : decode cX4_alone 0 = .ok (.lconst 0, 1) := by decide +kernel
theorem dX4_alone_1 : decode cX4_alone 1 = .ok (.lstore 4, 2) := by decide +kernel
theorem dX4_alone_3 : decode cX4_alone 3 = .ok (.iconst 0, 1) := by decide +kernel
theorem dX4_alone_4 : decode cX4_alone 4 = .ok (.istore 6, 2) := by decide +kernel
theorem dX4_alone_6 : decode cX4_alone 6 = .ok (.iload 6, 2) := by decide +kernel
theorem dX4_alone_8 : decode cX4_alone 8 = .ok (.aload_n 0, 1) := by decide +kernel
theorem dX4_alone_9 : decode cX4_alone 9 = .ok (.getfield 50, 3) := by decide +kernel
theorem dX4_alone_12 : decode cX4_alone 12 = .ok (.arraylength, 1) := by decide +kernel
theorem dX4_alone_13 : decode cX4_alone 13 = .ok (.if_icmp .ge 52, 3) := by decide +kernel
theorem dX4_alone_16 : decode cX4_alone 16 = .ok (.lload_n 1, 1) := by decide +kernel
theorem dX4_alone_17 : decode cX4_alone 17 = .ok (.iload 6, 2) := by decide +kernel
theorem dX4_alone_19 : decode cX4_alone 19 = .ok (.lshr, 1) := by decide +kernel
theorem dX4_alone_20 : decode cX4_alone 20 = .ok (.lconst 1, 1) := by decide +kernel
theorem dX4_alone_21 : decode cX4_alone 21 = .ok (.land, 1) := by decide +kernel
theorem dX4_alone_22 : decode cX4_alone 22 = .ok (.lconst 0, 1) := by decide +kernel
theorem dX4_alone_23 : decode cX4_alone 23 = .ok (.lcmp, 1) := by decide +kernel
theorem dX4_alone_24 : decode cX4_alone 24 = .ok (.ifCond .eq 35, 3) := by decide +kernel
theorem dX4_alone_27 : decode cX4_alone 27 = .ok (.lload 4, 2) := by decide +kernel
theorem dX4_alone_29 : decode cX4_alone 29 = .ok (.lconst 1, 1) := by decide +kernel
theorem dX4_alone_30 : decode cX4_alone 30 = .ok (.aload_n 0, 1) := by decide +kernel
theorem dX4_alone_31 : decode cX4_alone 31 = .ok (.getfield 28, 3) := by decide +kernel
theorem dX4_alone_34 : decode cX4_alone 34 = .ok (.iload_n 3, 1) := by decide +kernel
theorem dX4_alone_35 : decode cX4_alone 35 = .ok (.iload 6, 2) := by decide +kernel
theorem dX4_alone_37 : decode cX4_alone 37 = .ok (.invokevirtual 130, 3) := by decide +kernel
theorem dX4_alone_40 : decode cX4_alone 40 = .ok (.lshl, 1) := by decide +kernel
theorem dX4_alone_41 : decode cX4_alone 41 = .ok (.lconst 1, 1) := by decide +kernel
theorem dX4_alone_42 : decode cX4_alone 42 = .ok (.aload_n 0, 1) := by decide +kernel
theorem dX4_alone_43 : decode cX4_alone 43 = .ok (.getfield 28, 3) := by decide +kernel
theorem dX4_alone_46 : decode cX4_alone 46 = .ok (.iload_n 3, 1) := by decide +kernel
theorem dX4_alone_47 : decode cX4_alone 47 = .ok (.iconst 1, 1) := by decide +kernel
theorem dX4_alone_48 : decode cX4_alone 48 = .ok (.iadd, 1) := by decide +kernel
theorem dX4_alone_49 : decode cX4_alone 49 = .ok (.iload 6, 2) := by decide +kernel
theorem dX4_alone_51 : decode cX4_alone 51 = .ok (.invokevirtual 130, 3) := by decide +kernel
theorem dX4_alone_54 : decode cX4_alone 54 = .ok (.lshl, 1) := by decide +kernel
theorem dX4_alone_55 : decode cX4_alone 55 = .ok (.lor, 1) := by decide +kernel
theorem dX4_alone_56 : decode cX4_alone 56 = .ok (.lor, 1) := by decide +kernel
theorem dX4_alone_57 : decode cX4_alone 57 = .ok (.lstore 4, 2) := by decide +kernel
theorem dX4_alone_59 : decode cX4_alone 59 = .ok (.iinc 6 1, 3) := by decide +kernel
theorem dX4_alone_62 : decode cX4_alone 62 = .ok (.goto (-56), 3) := by decide +kernel
theorem dX4_alone_65 : decode cX4_alone 65 = .ok (.lload 4, 2) := by decide +kernel
theorem dX4_alone_67 : decode cX4_alone 67 = .ok (.lreturn, 1) := by decide +kernel
set_option maxRecDepth 20000 in
theorem ggX4_spread_X4_fill : GoodIn wsX4_spread wsX4_fill := goodIn_r _ [6, 1, 7, 8, 9, 10, 11, 12, 13, 14, 15, 16, 17, 18, 19, 20, 21, 22, 23, 24, 25, 26, 27, 28, 29, 30, 31, 32, 33, 34, 35, 36, 37, 38, 39, 40, 41, 42, 43, 44, 45, 46, 47, 48, 49, 50, 51] (by decide +kernel) (by decide +kernel)
set_option maxRecDepth 20000 in
theorem gX4_spread_X4_fill : GoodIn wsX4_spread (wsV RX4 132 RX4 yX4_fill wsX4_fill) := goodIn_app (goodIn_of _ (by decide +kernel)) ggX4_spread_X4_fill
theorem dX4_spread_0 : decode cX4_spread 0 = .ok (.lconst 0, 1) := by decide +kernel
theorem dX4_spread_1 : decode cX4_spread 1 = .ok (.lstore_n 3, 1) := by decide +kernel
theorem dX4_spread_2 : decode cX4_spread 2 = .ok (.iconst 0, 1) := by decide +kernel
theorem dX4_spread_3 : decode cX4_spread 3 = .ok (.istore 5, 2) := by decide +kernel
theorem dX4_spread_5 : decode cX4_spread 5 = .ok (.iload 5, 2) := by decide +kernel
theorem dX4_spread_7 : decode cX4_spread 7 = .ok (.aload_n 0, 1) := by decide +kernel
theorem dX4_spread_8 : decode cX4_spread 8 = .ok (.getfield 50, 3) := by decide +kernel
theorem dX4_spread_11 : decode cX4_spread 11 = .ok (.arraylength, 1) := by decide +kernel
theorem dX4_spread_12 : decode cX4_spread 12 = .ok (.if_icmp .ge 36, 3) := by decide +kernel
theorem dX4_spread_15 : decode cX4_spread 15 = .ok (.lload_n 1, 1) := by decide +kernel
theorem dX4_spread_16 : decode cX4_spread 16 = .ok (.iload 5, 2) := by decide +kernel
theorem dX4_spread_18 : decode cX4_spread 18 = .ok (.lshr, 1) := by decide +kernel
theorem dX4_spread_19 : decode cX4_spread 19 = .ok (.lconst 1, 1) := by decide +kernel
theorem dX4_spread_20 : decode cX4_spread 20 = .ok (.land, 1) := by decide +kernel
theorem dX4_spread_21 : decode cX4_spread 21 = .ok (.lconst 0, 1) := by decide +kernel
theorem dX4_spread_22 : decode cX4_spread 22 = .ok (.lcmp, 1) := by decide +kernel
theorem dX4_spread_23 : decode cX4_spread 23 = .ok (.ifCond .eq 19, 3) := by decide +kernel
theorem dX4_spread_26 : decode cX4_spread 26 = .ok (.aload_n 0, 1) := by decide +kernel
theorem dX4_spread_27 : decode cX4_spread 27 = .ok (.iload 5, 2) := by decide +kernel
theorem dX4_spread_29 : decode cX4_spread 29 = .ok (.invokevirtual 132, 3) := by decide +kernel
theorem dX4_spread_32 : decode cX4_spread 32 = .ok (.lload_n 3, 1) := by decide +kernel
theorem dX4_spread_33 : decode cX4_spread 33 = .ok (.aload_n 0, 1) := by decide +kernel
theorem dX4_spread_34 : decode cX4_spread 34 = .ok (.getfield 50, 3) := by decide +kernel
theorem dX4_spread_37 : decode cX4_spread 37 = .ok (.iload 5, 2) := by decide +kernel
theorem dX4_spread_39 : decode cX4_spread 39 = .ok (.laload, 1) := by decide +kernel
theorem dX4_spread_40 : decode cX4_spread 40 = .ok (.lor, 1) := by decide +kernel
theorem dX4_spread_41 : decode cX4_spread 41 = .ok (.lstore_n 3, 1) := by decide +kernel
theorem dX4_spread_42 : decode cX4_spread 42 = .ok (.iinc 5 1, 3) := by decide +kernel
theorem dX4_spread_45 : decode cX4_spread 45 = .ok (.goto (-40), 3) := by decide +kernel
theorem dX4_spread_48 : decode cX4_spread 48 = .ok (.iconst 0, 1) := by decide +kernel
theorem dX4_spread_49 : decode cX4_spread 49 = .ok (.istore 5, 2) := by decide +kernel
theorem dX4_spread_51 : decode cX4_spread 51 = .ok (.iload 5, 2) := by decide +kernel
theorem dX4_spread_53 : decode cX4_spread 53 = .ok (.aload_n 0, 1) := by decide +kernel
theorem dX4_spread_54 : decode cX4_spread 54 = .ok (.getfield 50, 3) := by decide +kernel
theorem dX4_spread_57 : decode cX4_spread 57 = .ok (.arraylength, 1) := by decide +kernel
theorem dX4_spread_58 : decode cX4_spread 58 = .ok (.if_icmp .ge 26, 3) := by decide +kernel
theorem dX4_spread_61 : decode cX4_spread 61 = .ok (.lload_n 3, 1) := by decide +kernel
theorem dX4_spread_62 : decode cX4_spread 62 = .ok (.iload 5, 2) := by decide +kernel
theorem dX4_spread_64 : decode cX4_spread 64 = .ok (.lshr, 1) := by decide +kernel
theorem dX4_spread_65 : decode cX4_spread 65 = .ok (.lconst 1, 1) := by decide +kernel
theorem dX4_spread_66 : decode cX4_spread 66 = .ok (.land, 1) := by decide +kernel
theorem dX4_spread_67 : decode cX4_spread 67 = .ok (.lconst 0, 1) := by decide +kernel
theorem dX4_spread_68 : decode cX4_spread 68 = .ok (.lcmp, 1) := by decide +kernel
theorem dX4_spread_69 : decode cX4_spread 69 = .ok (.ifCond .eq 9, 3) := by decide +kernel
theorem dX4_spread_72 : decode cX4_spread 72 = .ok (.aload_n 0, 1) := by decide +kernel
theorem dX4_spread_73 : decode cX4_spread 73 = .ok (.iload 5, 2) := by decide +kernel
theorem dX4_spread_75 : decode cX4_spread 75 = .ok (.invokevirtual 132, 3) := by decide +kernel
theorem dX4_spread_78 : decode cX4_spread 78 = .ok (.iinc 5 1, 3) := by decide +kernel
theorem dX4_spread_81 : decode cX4_spread 81 = .ok (.goto (-30), 3) := by decide +kernel
theorem dX4_spread_84 : decode cX4_spread 84 = .ok (.lload_n 3, 1) := by decide +kernel
theorem dX4_spread_85 : decode cX4_spread 85 = .ok (.lreturn, 1) := by decide +kernel
set_option maxRecDepth 20000 in
theorem ggX4_codesFrom_X10_size : GoodIn wsX4_codesFrom wsX10_size := goodIn_r _ [6, 7, 23, 24, 25, 26, 27, 28, 29, 30, 31, 32, 33] (by decide +kernel) (by decide +kernel)
set_option maxRecDepth 20000 in
theorem gX4_codesFrom_X10_size : GoodIn wsX4_codesFrom (wsV RX4 119 RX10 yX10_size wsX10_size) := goodIn_app (goodIn_of _ (by decide +kernel)) ggX4_codesFrom_X10_size
set_option maxRecDepth 20000 in
theorem ggX4_codesFrom_X4_image : GoodIn wsX4_codesFrom wsX4_image := goodIn_r _ [12, 13, 14, 15, 16, 17, 18, 19, 20, 21, 22] (by decide +kernel) (by decide +kernel)
set_option maxRecDepth 20000 in
theorem gX4_codesFrom_X4_image : GoodIn wsX4_codesFrom (wsV RX4 121 RX4 yX4_image wsX4_image) := goodIn_app (goodIn_of _ (by decide +kernel)) ggX4_codesFrom_X4_image
theorem dX4_codesFrom_0 : decode cX4_codesFrom 0 = .ok (.lconst 0, 1) := by decide +kernel
theorem dX4_codesFrom_1 : decode cX4_codesFrom 1 = .ok (.lstore 4, 2) := by decide +kernel
theorem dX4_codesFrom_3 : decode cX4_codesFrom 3 = .ok (.iconst 0, 1) := by decide +kernel
theorem dX4_codesFrom_4 : decode cX4_codesFrom 4 = .ok (.istore 6, 2) := by decide +kernel
theorem dX4_codesFrom_6 : decode cX4_codesFrom 6 = .ok (.iload 6, 2) := by decide +kernel
theorem dX4_codesFrom_8 : decode cX4_codesFrom 8 = .ok (.aload_n 0, 1) := by decide +kernel
theorem dX4_codesFrom_9 : decode cX4_codesFrom 9 = .ok (.getfield 37, 3) := by decide +kernel
theorem dX4_codesFrom_12 : decode cX4_codesFrom 12 = .ok (.invokevirtual 119, 3) := by decide +kernel
theorem dX4_codesFrom_15 : decode cX4_codesFrom 15 = .ok (.if_icmp .ge 34, 3) := by decide +kernel
theorem dX4_codesFrom_18 : decode cX4_codesFrom 18 = .ok (.lload_n 2, 1) := by decide +kernel
theorem dX4_codesFrom_19 : decode cX4_codesFrom 19 = .ok (.iload 6, 2) := by decide +kernel
theorem dX4_codesFrom_21 : decode cX4_codesFrom 21 = .ok (.lshr, 1) := by decide +kernel
theorem dX4_codesFrom_22 : decode cX4_codesFrom 22 = .ok (.lconst 1, 1) := by decide +kernel
theorem dX4_codesFrom_23 : decode cX4_codesFrom 23 = .ok (.land, 1) := by decide +kernel
theorem dX4_codesFrom_24 : decode cX4_codesFrom 24 = .ok (.lconst 0, 1) := by decide +kernel
theorem dX4_codesFrom_25 : decode cX4_codesFrom 25 = .ok (.lcmp, 1) := by decide +kernel
theorem dX4_codesFrom_26 : decode cX4_codesFrom 26 = .ok (.ifCond .eq 17, 3) := by decide +kernel
theorem dX4_codesFrom_29 : decode cX4_codesFrom 29 = .ok (.lload 4, 2) := by decide +kernel
theorem dX4_codesFrom_31 : decode cX4_codesFrom 31 = .ok (.lconst 1, 1) := by decide +kernel
theorem dX4_codesFrom_32 : decode cX4_codesFrom 32 = .ok (.aload_n 0, 1) := by decide +kernel
theorem dX4_codesFrom_33 : decode cX4_codesFrom 33 = .ok (.iload_n 1, 1) := by decide +kernel
theorem dX4_codesFrom_34 : decode cX4_codesFrom 34 = .ok (.iload 6, 2) := by decide +kernel
theorem dX4_codesFrom_36 : decode cX4_codesFrom 36 = .ok (.invokevirtual 121, 3) := by decide +kernel
theorem dX4_codesFrom_39 : decode cX4_codesFrom 39 = .ok (.lshl, 1) := by decide +kernel
theorem dX4_codesFrom_40 : decode cX4_codesFrom 40 = .ok (.lor, 1) := by decide +kernel
theorem dX4_codesFrom_41 : decode cX4_codesFrom 41 = .ok (.lstore 4, 2) := by decide +kernel
theorem dX4_codesFrom_43 : decode cX4_codesFrom 43 = .ok (.iinc 6 1, 3) := by decide +kernel
theorem dX4_codesFrom_46 : decode cX4_codesFrom 46 = .ok (.goto (-40), 3) := by decide +kernel
theorem dX4_codesFrom_49 : decode cX4_codesFrom 49 = .ok (.lload 4, 2) := by decide +kernel
theorem dX4_codesFrom_51 : decode cX4_codesFrom 51 = .ok (.lreturn, 1) := by decide +kernel
set_option maxRecDepth 20000 in
theorem ggX4_closedAround_X10_size : GoodIn wsX4_closedAround wsX10_size := goodIn_r _ [6, 7, 32, 33, 34, 35, 36, 37, 38, 39, 40, 41, 42] (by decide +kernel) (by decide +kernel)
set_option maxRecDepth 20000 in
theorem gX4_closedAround_X10_size : GoodIn wsX4_closedAround (wsV RX4 119 RX10 yX10_size wsX10_size) := goodIn_app (goodIn_of _ (by decide +kernel)) ggX4_closedAround_X10_size
set_option maxRecDepth 20000 in
theorem ggX4_closedAround_X10_stepAround : GoodIn wsX4_closedAround wsX10_stepAround := goodIn_r _ [11, 7, 12, 32, 33, 34, 35, 36, 37, 38, 39, 40, 41, 42] (by decide +kernel) (by decide +kernel)
set_option maxRecDepth 20000 in
theorem gX4_closedAround_X10_stepAround : GoodIn wsX4_closedAround (wsV RX4 136 RX10 yX10_stepAround wsX10_stepAround) := goodIn_app (goodIn_of _ (by decide +kernel)) ggX4_closedAround_X10_stepAround
set_option maxRecDepth 20000 in
theorem ggX4_closedAround_X10_after : GoodIn wsX4_closedAround wsX10_after := goodIn_r _ [16, 7, 17, 18, 32, 33, 34, 35, 36, 37, 38, 39, 40, 41, 42] (by decide +kernel) (by decide +kernel)
set_option maxRecDepth 20000 in
theorem gX4_closedAround_X10_after : GoodIn wsX4_closedAround (wsV RX4 139 RX10 yX10_after wsX10_after) := goodIn_app (goodIn_of _ (by decide +kernel)) ggX4_closedAround_X10_after
set_option maxRecDepth 20000 in
theorem ggX4_closedAround_X4_bit : GoodIn wsX4_closedAround wsX4_bit := goodIn_r _ [22] (by decide +kernel) (by decide +kernel)
set_option maxRecDepth 20000 in
theorem gX4_closedAround_X4_bit : GoodIn wsX4_closedAround (va_wsS RX4 91 yX4_bit wsX4_bit) := goodIn_app (goodIn_of _ (by decide +kernel)) ggX4_closedAround_X4_bit
theorem dX4_closedAround_0 : decode cX4_closedAround 0 = .ok (.lconst 0, 1) := by decide +kernel
theorem dX4_closedAround_1 : decode cX4_closedAround 1 = .ok (.lstore 5, 2) := by decide +kernel
theorem dX4_closedAround_3 : decode cX4_closedAround 3 = .ok (.iconst 0, 1) := by decide +kernel
theorem dX4_closedAround_4 : decode cX4_closedAround 4 = .ok (.istore 7, 2) := by decide +kernel
theorem dX4_closedAround_6 : decode cX4_closedAround 6 = .ok (.iload 7, 2) := by decide +kernel
theorem dX4_closedAround_8 : decode cX4_closedAround 8 = .ok (.aload_n 0, 1) := by decide +kernel
theorem dX4_closedAround_9 : decode cX4_closedAround 9 = .ok (.getfield 37, 3) := by decide +kernel
theorem dX4_closedAround_12 : decode cX4_closedAround 12 = .ok (.invokevirtual 119, 3) := by decide +kernel
theorem dX4_closedAround_15 : decode cX4_closedAround 15 = .ok (.if_icmp .ge 78, 3) := by decide +kernel
theorem dX4_closedAround_18 : decode cX4_closedAround 18 = .ok (.lload_n 3, 1) := by decide +kernel
theorem dX4_closedAround_19 : decode cX4_closedAround 19 = .ok (.iload 7, 2) := by decide +kernel
theorem dX4_closedAround_21 : decode cX4_closedAround 21 = .ok (.lshr, 1) := by decide +kernel
theorem dX4_closedAround_22 : decode cX4_closedAround 22 = .ok (.lconst 1, 1) := by decide +kernel
theorem dX4_closedAround_23 : decode cX4_closedAround 23 = .ok (.land, 1) := by decide +kernel
theorem dX4_closedAround_24 : decode cX4_closedAround 24 = .ok (.lconst 0, 1) := by decide +kernel
theorem dX4_closedAround_25 : decode cX4_closedAround 25 = .ok (.lcmp, 1) := by decide +kernel
theorem dX4_closedAround_26 : decode cX4_closedAround 26 = .ok (.ifCond .eq 61, 3) := by decide +kernel
theorem dX4_closedAround_29 : decode cX4_closedAround 29 = .ok (.lload 5, 2) := by decide +kernel
theorem dX4_closedAround_31 : decode cX4_closedAround 31 = .ok (.aload_n 0, 1) := by decide +kernel
theorem dX4_closedAround_32 : decode cX4_closedAround 32 = .ok (.getfield 37, 3) := by decide +kernel
theorem dX4_closedAround_35 : decode cX4_closedAround 35 = .ok (.iload_n 2, 1) := by decide +kernel
theorem dX4_closedAround_36 : decode cX4_closedAround 36 = .ok (.aload_n 0, 1) := by decide +kernel
theorem dX4_closedAround_37 : decode cX4_closedAround 37 = .ok (.getfield 37, 3) := by decide +kernel
theorem dX4_closedAround_40 : decode cX4_closedAround 40 = .ok (.iload 7, 2) := by decide +kernel
theorem dX4_closedAround_42 : decode cX4_closedAround 42 = .ok (.iconst 2, 1) := by decide +kernel
theorem dX4_closedAround_43 : decode cX4_closedAround 43 = .ok (.iload_n 1, 1) := by decide +kernel
theorem dX4_closedAround_44 : decode cX4_closedAround 44 = .ok (.imul, 1) := by decide +kernel
theorem dX4_closedAround_45 : decode cX4_closedAround 45 = .ok (.invokevirtual 136, 3) := by decide +kernel
theorem dX4_closedAround_48 : decode cX4_closedAround 48 = .ok (.invokevirtual 139, 3) := by decide +kernel
theorem dX4_closedAround_51 : decode cX4_closedAround 51 = .ok (.invokestatic 91, 3) := by decide +kernel
theorem dX4_closedAround_54 : decode cX4_closedAround 54 = .ok (.lor, 1) := by decide +kernel
theorem dX4_closedAround_55 : decode cX4_closedAround 55 = .ok (.lstore 5, 2) := by decide +kernel
theorem dX4_closedAround_57 : decode cX4_closedAround 57 = .ok (.lload 5, 2) := by decide +kernel
theorem dX4_closedAround_59 : decode cX4_closedAround 59 = .ok (.aload_n 0, 1) := by decide +kernel
theorem dX4_closedAround_60 : decode cX4_closedAround 60 = .ok (.getfield 37, 3) := by decide +kernel
theorem dX4_closedAround_63 : decode cX4_closedAround 63 = .ok (.iload_n 2, 1) := by decide +kernel
theorem dX4_closedAround_64 : decode cX4_closedAround 64 = .ok (.aload_n 0, 1) := by decide +kernel
theorem dX4_closedAround_65 : decode cX4_closedAround 65 = .ok (.getfield 37, 3) := by decide +kernel
theorem dX4_closedAround_68 : decode cX4_closedAround 68 = .ok (.iload 7, 2) := by decide +kernel
theorem dX4_closedAround_70 : decode cX4_closedAround 70 = .ok (.iconst 2, 1) := by decide +kernel
theorem dX4_closedAround_71 : decode cX4_closedAround 71 = .ok (.iload_n 1, 1) := by decide +kernel
theorem dX4_closedAround_72 : decode cX4_closedAround 72 = .ok (.imul, 1) := by decide +kernel
theorem dX4_closedAround_73 : decode cX4_closedAround 73 = .ok (.iconst 1, 1) := by decide +kernel
theorem dX4_closedAround_74 : decode cX4_closedAround 74 = .ok (.iadd, 1) := by decide +kernel
theorem dX4_closedAround_75 : decode cX4_closedAround 75 = .ok (.invokevirtual 136, 3) := by decide +kernel
theorem dX4_closedAround_78 : decode cX4_closedAround 78 = .ok (.invokevirtual 139, 3) := by decide +kernel
theorem dX4_closedAround_81 : decode cX4_closedAround 81 = .ok (.invokestatic 91, 3) := by decide +kernel
theorem dX4_closedAround_84 : decode cX4_closedAround 84 = .ok (.lor, 1) := by decide +kernel
theorem dX4_closedAround_85 : decode cX4_closedAround 85 = .ok (.lstore 5, 2) := by decide +kernel
theorem dX4_closedAround_87 : decode cX4_closedAround 87 = .ok (.iinc 7 1, 3) := by decide +kernel
theorem dX4_closedAround_90 : decode cX4_closedAround 90 = .ok (.goto (-84), 3) := by decide +kernel
theorem dX4_closedAround_93 : decode cX4_closedAround 93 = .ok (.lload 5, 2) := by decide +kernel
theorem dX4_closedAround_95 : decode cX4_closedAround 95 = .ok (.lreturn, 1) := by decide +kernel
set_option maxRecDepth 20000 in
theorem ggX4_fill_X10_size : GoodIn wsX4_fill wsX10_size := goodIn_r _ [9, 10, 36, 37, 38, 39, 40, 41, 42, 43, 44, 45, 46] (by decide +kernel) (by decide +kernel)
set_option maxRecDepth 20000 in
theorem gX4_fill_X10_size : GoodIn wsX4_fill (wsV RX4 119 RX10 yX10_size wsX10_size) := goodIn_app (goodIn_of _ (by decide +kernel)) ggX4_fill_X10_size
set_option maxRecDepth 20000 in
theorem ggX4_fill_X10_pairAt : GoodIn wsX4_fill wsX10_pairAt := goodIn_r _ [14, 10, 15, 36, 37, 38, 39, 40, 41, 42, 43, 44, 45, 46] (by decide +kernel) (by decide +kernel)
set_option maxRecDepth 20000 in
theorem gX4_fill_X10_pairAt : GoodIn wsX4_fill (wsV RX4 142 RX10 yX10_pairAt wsX10_pairAt) := goodIn_app (goodIn_of _ (by decide +kernel)) ggX4_fill_X10_pairAt
set_option maxRecDepth 20000 in
theorem ggX4_fill_X1_image : GoodIn wsX4_fill wsX1_image := goodIn_r _ [19, 20, 21, 22, 23, 24, 25, 18, 26] (by decide +kernel) (by decide +kernel)
set_option maxRecDepth 20000 in
theorem gX4_fill_X1_image : GoodIn wsX4_fill (va_wsS RX4 145 yX1_image wsX1_image) := goodIn_app (goodIn_of _ (by decide +kernel)) ggX4_fill_X1_image
theorem dX4_fill_0 : decode cX4_fill 0 = .ok (.iload_n 1, 1) := by decide +kernel
theorem dX4_fill_1 : decode cX4_fill 1 = .ok (.ifCond .lt 25, 3) := by decide +kernel
theorem dX4_fill_4 : decode cX4_fill 4 = .ok (.iload_n 1, 1) := by decide +kernel
theorem dX4_fill_5 : decode cX4_fill 5 = .ok (.aload_n 0, 1) := by decide +kernel
theorem dX4_fill_6 : decode cX4_fill 6 = .ok (.getfield 50, 3) := by decide +kernel
theorem dX4_fill_9 : decode cX4_fill 9 = .ok (.arraylength, 1) := by decide +kernel
theorem dX4_fill_10 : decode cX4_fill 10 = .ok (.if_icmp .ge 16, 3) := by decide +kernel
theorem dX4_fill_13 : decode cX4_fill 13 = .ok (.aload_n 0, 1) := by decide +kernel
theorem dX4_fill_14 : decode cX4_fill 14 = .ok (.getfield 9, 3) := by decide +kernel
theorem dX4_fill_17 : decode cX4_fill 17 = .ok (.iload_n 1, 1) := by decide +kernel
theorem dX4_fill_18 : decode cX4_fill 18 = .ok (.lshr, 1) := by decide +kernel
theorem dX4_fill_19 : decode cX4_fill 19 = .ok (.lconst 1, 1) := by decide +kernel
theorem dX4_fill_20 : decode cX4_fill 20 = .ok (.land, 1) := by decide +kernel
theorem dX4_fill_21 : decode cX4_fill 21 = .ok (.lconst 0, 1) := by decide +kernel
theorem dX4_fill_22 : decode cX4_fill 22 = .ok (.lcmp, 1) := by decide +kernel
theorem dX4_fill_23 : decode cX4_fill 23 = .ok (.ifCond .eq 4, 3) := by decide +kernel
theorem dX4_fill_26 : decode cX4_fill 26 = .ok (.return_, 1) := by decide +kernel
theorem dX4_fill_27 : decode cX4_fill 27 = .ok (.aload_n 0, 1) := by decide +kernel
theorem dX4_fill_28 : decode cX4_fill 28 = .ok (.dup, 1) := by decide +kernel
theorem dX4_fill_29 : decode cX4_fill 29 = .ok (.getfield 9, 3) := by decide +kernel
theorem dX4_fill_32 : decode cX4_fill 32 = .ok (.lconst 1, 1) := by decide +kernel
theorem dX4_fill_33 : decode cX4_fill 33 = .ok (.iload_n 1, 1) := by decide +kernel
theorem dX4_fill_34 : decode cX4_fill 34 = .ok (.lshl, 1) := by decide +kernel
theorem dX4_fill_35 : decode cX4_fill 35 = .ok (.lor, 1) := by decide +kernel
theorem dX4_fill_36 : decode cX4_fill 36 = .ok (.putfield 9, 3) := by decide +kernel
theorem dX4_fill_39 : decode cX4_fill 39 = .ok (.aload_n 0, 1) := by decide +kernel
theorem dX4_fill_40 : decode cX4_fill 40 = .ok (.getfield 50, 3) := by decide +kernel
theorem dX4_fill_43 : decode cX4_fill 43 = .ok (.iload_n 1, 1) := by decide +kernel
theorem dX4_fill_44 : decode cX4_fill 44 = .ok (.lconst 0, 1) := by decide +kernel
theorem dX4_fill_45 : decode cX4_fill 45 = .ok (.lastore, 1) := by decide +kernel
theorem dX4_fill_46 : decode cX4_fill 46 = .ok (.iconst 0, 1) := by decide +kernel
theorem dX4_fill_47 : decode cX4_fill 47 = .ok (.istore_n 2, 1) := by decide +kernel
theorem dX4_fill_48 : decode cX4_fill 48 = .ok (.iload_n 2, 1) := by decide +kernel
theorem dX4_fill_49 : decode cX4_fill 49 = .ok (.aload_n 0, 1) := by decide +kernel
theorem dX4_fill_50 : decode cX4_fill 50 = .ok (.getfield 37, 3) := by decide +kernel
theorem dX4_fill_53 : decode cX4_fill 53 = .ok (.invokevirtual 119, 3) := by decide +kernel
theorem dX4_fill_56 : decode cX4_fill 56 = .ok (.if_icmp .ge 46, 3) := by decide +kernel
theorem dX4_fill_59 : decode cX4_fill 59 = .ok (.iload_n 1, 1) := by decide +kernel
theorem dX4_fill_60 : decode cX4_fill 60 = .ok (.aload_n 0, 1) := by decide +kernel
theorem dX4_fill_61 : decode cX4_fill 61 = .ok (.getfield 37, 3) := by decide +kernel
theorem dX4_fill_64 : decode cX4_fill 64 = .ok (.iload_n 2, 1) := by decide +kernel
theorem dX4_fill_65 : decode cX4_fill 65 = .ok (.invokevirtual 142, 3) := by decide +kernel
theorem dX4_fill_68 : decode cX4_fill 68 = .ok (.invokestatic 145, 3) := by decide +kernel
theorem dX4_fill_71 : decode cX4_fill 71 = .ok (.istore_n 3, 1) := by decide +kernel
theorem dX4_fill_72 : decode cX4_fill 72 = .ok (.aload_n 0, 1) := by decide +kernel
theorem dX4_fill_73 : decode cX4_fill 73 = .ok (.getfield 46, 3) := by decide +kernel
theorem dX4_fill_76 : decode cX4_fill 76 = .ok (.iload_n 1, 1) := by decide +kernel
theorem dX4_fill_77 : decode cX4_fill 77 = .ok (.bipush 60, 2) := by decide +kernel
theorem dX4_fill_79 : decode cX4_fill 79 = .ok (.imul, 1) := by decide +kernel
theorem dX4_fill_80 : decode cX4_fill 80 = .ok (.iload_n 2, 1) := by decide +kernel
theorem dX4_fill_81 : decode cX4_fill 81 = .ok (.iadd, 1) := by decide +kernel
theorem dX4_fill_82 : decode cX4_fill 82 = .ok (.iload_n 3, 1) := by decide +kernel
theorem dX4_fill_83 : decode cX4_fill 83 = .ok (.iastore, 1) := by decide +kernel
theorem dX4_fill_84 : decode cX4_fill 84 = .ok (.aload_n 0, 1) := by decide +kernel
theorem dX4_fill_85 : decode cX4_fill 85 = .ok (.getfield 50, 3) := by decide +kernel
theorem dX4_fill_88 : decode cX4_fill 88 = .ok (.iload_n 1, 1) := by decide +kernel
theorem dX4_fill_89 : decode cX4_fill 89 = .ok (.dup2, 1) := by decide +kernel
theorem dX4_fill_90 : decode cX4_fill 90 = .ok (.laload, 1) := by decide +kernel
theorem dX4_fill_91 : decode cX4_fill 91 = .ok (.lconst 1, 1) := by decide +kernel
theorem dX4_fill_92 : decode cX4_fill 92 = .ok (.iload_n 3, 1) := by decide +kernel
theorem dX4_fill_93 : decode cX4_fill 93 = .ok (.lshl, 1) := by decide +kernel
theorem dX4_fill_94 : decode cX4_fill 94 = .ok (.lor, 1) := by decide +kernel
theorem dX4_fill_95 : decode cX4_fill 95 = .ok (.lastore, 1) := by decide +kernel
theorem dX4_fill_96 : decode cX4_fill 96 = .ok (.iinc 2 1, 3) := by decide +kernel
theorem dX4_fill_99 : decode cX4_fill 99 = .ok (.goto (-51), 3) := by decide +kernel
theorem dX4_fill_102 : decode cX4_fill 102 = .ok (.return_, 1) := by decide +kernel
theorem dX4_bit_0 : decode cX4_bit 0 = .ok (.iload_n 0, 1) := by decide +kernel
theorem dX4_bit_1 : decode cX4_bit 1 = .ok (.ifCond .lt 9, 3) := by decide +kernel
theorem dX4_bit_4 : decode cX4_bit 4 = .ok (.lconst 1, 1) := by decide +kernel
theorem dX4_bit_5 : decode cX4_bit 5 = .ok (.iload_n 0, 1) := by decide +kernel
theorem dX4_bit_6 : decode cX4_bit 6 = .ok (.lshl, 1) := by decide +kernel
theorem dX4_bit_7 : decode cX4_bit 7 = .ok (.goto 4, 3) := by decide +kernel
theorem dX4_bit_10 : decode cX4_bit 10 = .ok (.lconst 0, 1) := by decide +kernel
theorem dX4_bit_11 : decode cX4_bit 11 = .ok (.lreturn, 1) := by decide +kernel
theorem dX5_init_0 : decode cX5_init 0 = .ok (.aload_n 0, 1) := by decide +kernel
theorem dX5_init_1 : decode cX5_init 1 = .ok (.invokespecial 3, 3) := by decide +kernel
theorem dX5_init_4 : decode cX5_init 4 = .ok (.aload_n 0, 1) := by decide +kernel
theorem dX5_init_5 : decode cX5_init 5 = .ok (.bipush 18, 2) := by decide +kernel
theorem dX5_init_7 : decode cX5_init 7 = .ok (.newarray .int, 2) := by decide +kernel
theorem dX5_init_9 : decode cX5_init 9 = .ok (.putfield 11, 3) := by decide +kernel
theorem dX5_init_12 : decode cX5_init 12 = .ok (.aload_n 0, 1) := by decide +kernel
theorem dX5_init_13 : decode cX5_init 13 = .ok (.iconst 1, 1) := by decide +kernel
theorem dX5_init_14 : decode cX5_init 14 = .ok (.putfield 15, 3) := by decide +kernel
theorem dX5_init_17 : decode cX5_init 17 = .ok (.aload_n 0, 1) := by decide +kernel
theorem dX5_init_18 : decode cX5_init 18 = .ok (.iconst 1, 1) := by decide +kernel
theorem dX5_init_19 : decode cX5_init 19 = .ok (.putfield 19, 3) := by decide +kernel
theorem dX5_init_22 : decode cX5_init 22 = .ok (.aload_n 0, 1) := by decide +kernel
theorem dX5_init_23 : decode cX5_init 23 = .ok (.iconst 0, 1) := by decide +kernel
theorem dX5_init_24 : decode cX5_init 24 = .ok (.putfield 22, 3) := by decide +kernel
theorem dX5_init_27 : decode cX5_init 27 = .ok (.aload_n 0, 1) := by decide +kernel
theorem dX5_init_28 : decode cX5_init 28 = .ok (.iconst 0, 1) := by decide +kernel
theorem dX5_init_29 : decode cX5_init 29 = .ok (.putfield 25, 3) := by decide +kernel
theorem dX5_init_32 : decode cX5_init 32 = .ok (.return_, 1) := by decide +kernel
theorem dX5_become_0 : decode cX5_become 0 = .ok (.aload_n 0, 1) := by decide +kernel
theorem dX5_become_1 : decode cX5_become 1 = .ok (.iload_n 1, 1) := by decide +kernel
theorem dX5_become_2 : decode cX5_become 2 = .ok (.putfield 15, 3) := by decide +kernel
theorem dX5_become_5 : decode cX5_become 5 = .ok (.aload_n 0, 1) := by decide +kernel
theorem dX5_become_6 : decode cX5_become 6 = .ok (.iload_n 2, 1) := by decide +kernel
theorem dX5_become_7 : decode cX5_become 7 = .ok (.putfield 19, 3) := by decide +kernel
theorem dX5_become_10 : decode cX5_become 10 = .ok (.aload_n 0, 1) := by decide +kernel
theorem dX5_become_11 : decode cX5_become 11 = .ok (.iload_n 3, 1) := by decide +kernel
theorem dX5_become_12 : decode cX5_become 12 = .ok (.putfield 22, 3) := by decide +kernel
theorem dX5_become_15 : decode cX5_become 15 = .ok (.iconst 0, 1) := by decide +kernel
theorem dX5_become_16 : decode cX5_become 16 = .ok (.istore 4, 2) := by decide +kernel
theorem dX5_become_18 : decode cX5_become 18 = .ok (.iload 4, 2) := by decide +kernel
theorem dX5_become_20 : decode cX5_become 20 = .ok (.aload_n 0, 1) := by decide +kernel
theorem dX5_become_21 : decode cX5_become 21 = .ok (.getfield 11, 3) := by decide +kernel
theorem dX5_become_24 : decode cX5_become 24 = .ok (.arraylength, 1) := by decide +kernel
theorem dX5_become_25 : decode cX5_become 25 = .ok (.if_icmp .ge 17, 3) := by decide +kernel
theorem dX5_become_28 : decode cX5_become 28 = .ok (.aload_n 0, 1) := by decide +kernel
theorem dX5_become_29 : decode cX5_become 29 = .ok (.getfield 11, 3) := by decide +kernel
theorem dX5_become_32 : decode cX5_become 32 = .ok (.iload 4, 2) := by decide +kernel
theorem dX5_become_34 : decode cX5_become 34 = .ok (.iconst 0, 1) := by decide +kernel
theorem dX5_become_35 : decode cX5_become 35 = .ok (.iastore, 1) := by decide +kernel
theorem dX5_become_36 : decode cX5_become 36 = .ok (.iinc 4 1, 3) := by decide +kernel
theorem dX5_become_39 : decode cX5_become 39 = .ok (.goto (-21), 3) := by decide +kernel
theorem dX5_become_42 : decode cX5_become 42 = .ok (.aload_n 0, 1) := by decide +kernel
theorem dX5_become_43 : decode cX5_become 43 = .ok (.dup, 1) := by decide +kernel
theorem dX5_become_44 : decode cX5_become 44 = .ok (.getfield 25, 3) := by decide +kernel
theorem dX5_become_47 : decode cX5_become 47 = .ok (.iconst 1, 1) := by decide +kernel
theorem dX5_become_48 : decode cX5_become 48 = .ok (.iadd, 1) := by decide +kernel
theorem dX5_become_49 : decode cX5_become 49 = .ok (.putfield 25, 3) := by decide +kernel
theorem dX5_become_52 : decode cX5_become 52 = .ok (.return_, 1) := by decide +kernel
theorem dX5_changes_0 : decode cX5_changes 0 = .ok (.aload_n 0, 1) := by decide +kernel
theorem dX5_changes_1 : decode cX5_changes 1 = .ok (.getfield 25, 3) := by decide +kernel
theorem dX5_changes_4 : decode cX5_changes 4 = .ok (.ireturn, 1) := by decide +kernel
theorem dX5_isState_0 : decode cX5_isState 0 = .ok (.iload_n 1, 1) := by decide +kernel
theorem dX5_isState_1 : decode cX5_isState 1 = .ok (.ifCond .lt 15, 3) := by decide +kernel
theorem dX5_isState_4 : decode cX5_isState 4 = .ok (.iload_n 1, 1) := by decide +kernel
theorem dX5_isState_5 : decode cX5_isState 5 = .ok (.aload_n 0, 1) := by decide +kernel
theorem dX5_isState_6 : decode cX5_isState 6 = .ok (.getfield 15, 3) := by decide +kernel
theorem dX5_isState_9 : decode cX5_isState 9 = .ok (.if_icmp .ge 7, 3) := by decide +kernel
theorem dX5_isState_12 : decode cX5_isState 12 = .ok (.iconst 1, 1) := by decide +kernel
theorem dX5_isState_13 : decode cX5_isState 13 = .ok (.goto 4, 3) := by decide +kernel
theorem dX5_isState_16 : decode cX5_isState 16 = .ok (.iconst 0, 1) := by decide +kernel
theorem dX5_isState_17 : decode cX5_isState 17 = .ok (.ireturn, 1) := by decide +kernel
theorem dX5_isMark_0 : decode cX5_isMark 0 = .ok (.iload_n 1, 1) := by decide +kernel
theorem dX5_isMark_1 : decode cX5_isMark 1 = .ok (.ifCond .lt 15, 3) := by decide +kernel
theorem dX5_isMark_4 : decode cX5_isMark 4 = .ok (.iload_n 1, 1) := by decide +kernel
theorem dX5_isMark_5 : decode cX5_isMark 5 = .ok (.aload_n 0, 1) := by decide +kernel
theorem dX5_isMark_6 : decode cX5_isMark 6 = .ok (.getfield 19, 3) := by decide +kernel
theorem dX5_isMark_9 : decode cX5_isMark 9 = .ok (.if_icmp .ge 7, 3) := by decide +kernel
theorem dX5_isMark_12 : decode cX5_isMark 12 = .ok (.iconst 1, 1) := by decide +kernel
theorem dX5_isMark_13 : decode cX5_isMark 13 = .ok (.goto 4, 3) := by decide +kernel
theorem dX5_isMark_16 : decode cX5_isMark 16 = .ok (.iconst 0, 1) := by decide +kernel
theorem dX5_isMark_17 : decode cX5_isMark 17 = .ok (.ireturn, 1) := by decide +kernel
set_option maxRecDepth 20000 in
theorem ggX5_knows_X5_isState : GoodIn wsX5_knows wsX5_isState := goodIn_r _ [5, 6, 18, 19, 20, 21, 22] (by decide +kernel) (by decide +kernel)
set_option maxRecDepth 20000 in
theorem gX5_knows_X5_isState : GoodIn wsX5_knows (wsV RX5 28 RX5 yX5_isState wsX5_isState) := goodIn_app (goodIn_of _ (by decide +kernel)) ggX5_knows_X5_isState
set_option maxRecDepth 20000 in
theorem ggX5_knows_X5_isPlain : GoodIn wsX5_knows wsX5_isPlain := goodIn_r _ [9] (by decide +kernel) (by decide +kernel)
set_option maxRecDepth 20000 in
theorem gX5_knows_X5_isPlain : GoodIn wsX5_knows (va_wsS RX5 32 yX5_isPlain wsX5_isPlain) := goodIn_app (goodIn_of _ (by decide +kernel)) ggX5_knows_X5_isPlain
set_option maxRecDepth 20000 in
theorem ggX5_knows_X5_isMark : GoodIn wsX5_knows wsX5_isMark := goodIn_r _ [13, 14, 18, 19, 20, 21, 22] (by decide +kernel) (by decide +kernel)
set_option maxRecDepth 20000 in
theorem gX5_knows_X5_isMark : GoodIn wsX5_knows (wsV RX5 35 RX5 yX5_isMark wsX5_isMark) := goodIn_app (goodIn_of _ (by decide +kernel)) ggX5_knows_X5_isMark
set_option maxRecDepth 20000 in
theorem ggX5_knows_X5_closes : GoodIn wsX5_knows wsX5_closes := goodIn_r _ [17] (by decide +kernel) (by decide +kernel)
set_option maxRecDepth 20000 in
theorem gX5_knows_X5_closes : GoodIn wsX5_knows (va_wsS RX5 38 yX5_closes wsX5_closes) := goodIn_app (goodIn_of _ (by decide +kernel)) ggX5_knows_X5_closes
theorem dX5_knows_0 : decode cX5_knows 0 = .ok (.aload_n 0, 1) := by decide +kernel
theorem dX5_knows_1 : decode cX5_knows 1 = .ok (.iload_n 1, 1) := by decide +kernel
theorem dX5_knows_2 : decode cX5_knows 2 = .ok (.invokevirtual 28, 3) := by decide +kernel
theorem dX5_knows_5 : decode cX5_knows 5 = .ok (.ifCond .eq 22, 3) := by decide +kernel
theorem dX5_knows_8 : decode cX5_knows 8 = .ok (.aload_n 0, 1) := by decide +kernel
theorem dX5_knows_9 : decode cX5_knows 9 = .ok (.iload 4, 2) := by decide +kernel
theorem dX5_knows_11 : decode cX5_knows 11 = .ok (.invokevirtual 28, 3) := by decide +kernel
theorem dX5_knows_14 : decode cX5_knows 14 = .ok (.ifCond .eq 13, 3) := by decide +kernel
theorem dX5_knows_17 : decode cX5_knows 17 = .ok (.iload_n 2, 1) := by decide +kernel
theorem dX5_knows_18 : decode cX5_knows 18 = .ok (.ifCond .lt 9, 3) := by decide +kernel
theorem dX5_knows_21 : decode cX5_knows 21 = .ok (.iload_n 2, 1) := by decide +kernel
theorem dX5_knows_22 : decode cX5_knows 22 = .ok (.bipush 6, 2) := by decide +kernel
theorem dX5_knows_24 : decode cX5_knows 24 = .ok (.if_icmp .lt 5, 3) := by decide +kernel
theorem dX5_knows_27 : decode cX5_knows 27 = .ok (.iconst 0, 1) := by decide +kernel
theorem dX5_knows_28 : decode cX5_knows 28 = .ok (.ireturn, 1) := by decide +kernel
theorem dX5_knows_29 : decode cX5_knows 29 = .ok (.iload_n 2, 1) := by decide +kernel
theorem dX5_knows_30 : decode cX5_knows 30 = .ok (.invokestatic 32, 3) := by decide +kernel
theorem dX5_knows_33 : decode cX5_knows 33 = .ok (.ifCond .eq 13, 3) := by decide +kernel
theorem dX5_knows_36 : decode cX5_knows 36 = .ok (.iload_n 3, 1) := by decide +kernel
theorem dX5_knows_37 : decode cX5_knows 37 = .ok (.ifCond .ne 7, 3) := by decide +kernel
theorem dX5_knows_40 : decode cX5_knows 40 = .ok (.iconst 1, 1) := by decide +kernel
theorem dX5_knows_41 : decode cX5_knows 41 = .ok (.goto 4, 3) := by decide +kernel
theorem dX5_knows_44 : decode cX5_knows 44 = .ok (.iconst 0, 1) := by decide +kernel
theorem dX5_knows_45 : decode cX5_knows 45 = .ok (.ireturn, 1) := by decide +kernel
theorem dX5_knows_46 : decode cX5_knows 46 = .ok (.aload_n 0, 1) := by decide +kernel
theorem dX5_knows_47 : decode cX5_knows 47 = .ok (.iload_n 3, 1) := by decide +kernel
theorem dX5_knows_48 : decode cX5_knows 48 = .ok (.invokevirtual 35, 3) := by decide +kernel
theorem dX5_knows_51 : decode cX5_knows 51 = .ok (.ifCond .ne 15, 3) := by decide +kernel
theorem dX5_knows_54 : decode cX5_knows 54 = .ok (.iload_n 2, 1) := by decide +kernel
theorem dX5_knows_55 : decode cX5_knows 55 = .ok (.invokestatic 38, 3) := by decide +kernel
theorem dX5_knows_58 : decode cX5_knows 58 = .ok (.ifCond .eq 12, 3) := by decide +kernel
theorem dX5_knows_61 : decode cX5_knows 61 = .ok (.iload_n 3, 1) := by decide +kernel
theorem dX5_knows_62 : decode cX5_knows 62 = .ok (.iconst (-1), 1) := by decide +kernel
theorem dX5_knows_63 : decode cX5_knows 63 = .ok (.if_icmp .ne 7, 3) := by decide +kernel
theorem dX5_knows_66 : decode cX5_knows 66 = .ok (.iconst 1, 1) := by decide +kernel
theorem dX5_knows_67 : decode cX5_knows 67 = .ok (.goto 4, 3) := by decide +kernel
theorem dX5_knows_70 : decode cX5_knows 70 = .ok (.iconst 0, 1) := by decide +kernel
