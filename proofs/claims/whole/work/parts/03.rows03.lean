theorem dX8_readMove_138 : decode cX8_readMove 138 = .ok (.putfield 34, 3) := by decide +kernel
theorem dX8_readMove_141 : decode cX8_readMove 141 = .ok (.aload_n 0, 1) := by decide +kernel
theorem dX8_readMove_142 : decode cX8_readMove 142 = .ok (.aload_n 1, 1) := by decide +kernel
theorem dX8_readMove_143 : decode cX8_readMove 143 = .ok (.aload_n 0, 1) := by decide +kernel
theorem dX8_readMove_144 : decode cX8_readMove 144 = .ok (.getfield 34, 3) := by decide +kernel
theorem dX8_readMove_147 : decode cX8_readMove 147 = .ok (.invokevirtual 57, 3) := by decide +kernel
theorem dX8_readMove_150 : decode cX8_readMove 150 = .ok (.invokevirtual 61, 3) := by decide +kernel
theorem dX8_readMove_153 : decode cX8_readMove 153 = .ok (.ifCond .ne 5, 3) := by decide +kernel
theorem dX8_readMove_156 : decode cX8_readMove 156 = .ok (.iconst 0, 1) := by decide +kernel
theorem dX8_readMove_157 : decode cX8_readMove 157 = .ok (.ireturn, 1) := by decide +kernel
theorem dX8_readMove_158 : decode cX8_readMove 158 = .ok (.aload_n 0, 1) := by decide +kernel
theorem dX8_readMove_159 : decode cX8_readMove 159 = .ok (.getfield 28, 3) := by decide +kernel
theorem dX8_readMove_162 : decode cX8_readMove 162 = .ok (.invokestatic 79, 3) := by decide +kernel
theorem dX8_readMove_165 : decode cX8_readMove 165 = .ok (.ifCond .eq 25, 3) := by decide +kernel
theorem dX8_readMove_168 : decode cX8_readMove 168 = .ok (.aload_n 0, 1) := by decide +kernel
theorem dX8_readMove_169 : decode cX8_readMove 169 = .ok (.aload_n 0, 1) := by decide +kernel
theorem dX8_readMove_170 : decode cX8_readMove 170 = .ok (.ldc 82, 2) := by decide +kernel
theorem dX8_readMove_172 : decode cX8_readMove 172 = .ok (.invokevirtual 70, 3) := by decide +kernel
theorem dX8_readMove_175 : decode cX8_readMove 175 = .ok (.invokevirtual 61, 3) := by decide +kernel
theorem dX8_readMove_178 : decode cX8_readMove 178 = .ok (.ifCond .eq 16, 3) := by decide +kernel
theorem dX8_readMove_181 : decode cX8_readMove 181 = .ok (.aload_n 0, 1) := by decide +kernel
theorem dX8_readMove_182 : decode cX8_readMove 182 = .ok (.aload_n 1, 1) := by decide +kernel
theorem dX8_readMove_183 : decode cX8_readMove 183 = .ok (.iconst 0, 1) := by decide +kernel
theorem dX8_readMove_184 : decode cX8_readMove 184 = .ok (.invokevirtual 74, 3) := by decide +kernel
theorem dX8_readMove_187 : decode cX8_readMove 187 = .ok (.ifCond .eq 7, 3) := by decide +kernel
theorem dX8_readMove_190 : decode cX8_readMove 190 = .ok (.iconst 1, 1) := by decide +kernel
theorem dX8_readMove_191 : decode cX8_readMove 191 = .ok (.goto 4, 3) := by decide +kernel
theorem dX8_readMove_194 : decode cX8_readMove 194 = .ok (.iconst 0, 1) := by decide +kernel
theorem dX8_readMove_195 : decode cX8_readMove 195 = .ok (.ireturn, 1) := by decide +kernel
set_option maxRecDepth 20000 in
theorem ggX8_readMark_X8_isWord : GoodIn wsX8_readMark wsX8_isWord := goodIn_r _ [6, 7, 8, 9, 10, 11, 12, 13, 14, 15, 16, 17, 18, 19, 20, 21, 22, 23, 5, 24, 25, 26, 27, 28, 29, 30, 31, 32, 33, 34, 35, 36, 37, 38, 39, 40, 41, 42, 43, 44, 45, 46, 47, 48, 49, 50, 51, 52, 53, 54, 55, 56, 57, 58, 59, 60, 61, 62, 63, 89, 90, 91, 92, 93, 94, 95, 96] (by decide +kernel) (by decide +kernel)
set_option maxRecDepth 20000 in
theorem gX8_readMark_X8_isWord : GoodIn wsX8_readMark (wsV RX8 70 RX8 yX8_isWord wsX8_isWord) := goodIn_app (goodIn_of _ (by decide +kernel)) ggX8_readMark_X8_isWord
set_option maxRecDepth 20000 in
theorem ggX8_readMark_X8_pass : GoodIn wsX8_readMark wsX8_pass := goodIn_r _ [67, 68, 69, 70, 5, 71, 7, 8, 25, 21, 22, 23, 24, 26, 72, 73, 74, 89, 90, 91, 92, 93, 94, 95, 96] (by decide +kernel) (by decide +kernel)
set_option maxRecDepth 20000 in
theorem gX8_readMark_X8_pass : GoodIn wsX8_readMark (wsV RX8 61 RX8 yX8_pass wsX8_pass) := goodIn_app (goodIn_of _ (by decide +kernel)) ggX8_readMark_X8_pass
set_option maxRecDepth 20000 in
theorem ggX8_readMark_X8_digit : GoodIn wsX8_readMark wsX8_digit := goodIn_r _ [78, 7, 8, 79, 80, 81, 5, 82, 25, 21, 22, 23, 24, 26, 72, 73, 74, 89, 90, 91, 92, 93, 94, 95, 96] (by decide +kernel) (by decide +kernel)
set_option maxRecDepth 20000 in
theorem gX8_readMark_X8_digit : GoodIn wsX8_readMark (wsV RX8 54 RX8 yX8_digit wsX8_digit) := goodIn_app (goodIn_of _ (by decide +kernel)) ggX8_readMark_X8_digit
set_option maxRecDepth 20000 in
theorem ggX8_readMark_X5_isMark : GoodIn wsX8_readMark wsX5_isMark := goodIn_r _ [87, 88, 97, 98, 99, 100, 101] (by decide +kernel) (by decide +kernel)
set_option maxRecDepth 20000 in
theorem gX8_readMark_X5_isMark : GoodIn wsX8_readMark (wsV RX8 86 RX5 yX5_isMark wsX5_isMark) := goodIn_app (goodIn_of _ (by decide +kernel)) ggX8_readMark_X5_isMark
theorem dX8_readMark_0 : decode cX8_readMark 0 = .ok (.iload_n 2, 1) := by decide +kernel
theorem dX8_readMark_1 : decode cX8_readMark 1 = .ok (.ifCond .eq 23, 3) := by decide +kernel
theorem dX8_readMark_4 : decode cX8_readMark 4 = .ok (.aload_n 0, 1) := by decide +kernel
theorem dX8_readMark_5 : decode cX8_readMark 5 = .ok (.ldc 84, 2) := by decide +kernel
theorem dX8_readMark_7 : decode cX8_readMark 7 = .ok (.invokevirtual 70, 3) := by decide +kernel
theorem dX8_readMark_10 : decode cX8_readMark 10 = .ok (.ifCond .eq 14, 3) := by decide +kernel
theorem dX8_readMark_13 : decode cX8_readMark 13 = .ok (.aload_n 0, 1) := by decide +kernel
theorem dX8_readMark_14 : decode cX8_readMark 14 = .ok (.iconst (-1), 1) := by decide +kernel
theorem dX8_readMark_15 : decode cX8_readMark 15 = .ok (.putfield 31, 3) := by decide +kernel
theorem dX8_readMark_18 : decode cX8_readMark 18 = .ok (.aload_n 0, 1) := by decide +kernel
theorem dX8_readMark_19 : decode cX8_readMark 19 = .ok (.iconst 1, 1) := by decide +kernel
theorem dX8_readMark_20 : decode cX8_readMark 20 = .ok (.invokevirtual 61, 3) := by decide +kernel
theorem dX8_readMark_23 : decode cX8_readMark 23 = .ok (.ireturn, 1) := by decide +kernel
theorem dX8_readMark_24 : decode cX8_readMark 24 = .ok (.aload_n 0, 1) := by decide +kernel
theorem dX8_readMark_25 : decode cX8_readMark 25 = .ok (.aload_n 0, 1) := by decide +kernel
theorem dX8_readMark_26 : decode cX8_readMark 26 = .ok (.invokevirtual 54, 3) := by decide +kernel
theorem dX8_readMark_29 : decode cX8_readMark 29 = .ok (.putfield 31, 3) := by decide +kernel
theorem dX8_readMark_32 : decode cX8_readMark 32 = .ok (.aload_n 0, 1) := by decide +kernel
theorem dX8_readMark_33 : decode cX8_readMark 33 = .ok (.aload_n 1, 1) := by decide +kernel
theorem dX8_readMark_34 : decode cX8_readMark 34 = .ok (.aload_n 0, 1) := by decide +kernel
theorem dX8_readMark_35 : decode cX8_readMark 35 = .ok (.getfield 31, 3) := by decide +kernel
theorem dX8_readMark_38 : decode cX8_readMark 38 = .ok (.invokevirtual 86, 3) := by decide +kernel
theorem dX8_readMark_41 : decode cX8_readMark 41 = .ok (.invokevirtual 61, 3) := by decide +kernel
theorem dX8_readMark_44 : decode cX8_readMark 44 = .ok (.ireturn, 1) := by decide +kernel
set_option maxRecDepth 20000 in
theorem ggX8_pass_X8_step : GoodIn wsX8_pass wsX8_step := goodIn_r _ [5, 6, 7, 8, 9, 10, 11, 4, 12, 13, 14, 15, 16, 17, 18, 19, 20, 21, 22, 23, 24] (by decide +kernel) (by decide +kernel)
set_option maxRecDepth 20000 in
theorem gX8_pass_X8_step : GoodIn wsX8_pass (wsV RX8 37 RX8 yX8_step wsX8_step) := goodIn_app (goodIn_of _ (by decide +kernel)) ggX8_pass_X8_step
theorem dX8_pass_0 : decode cX8_pass 0 = .ok (.iload_n 1, 1) := by decide +kernel
theorem dX8_pass_1 : decode cX8_pass 1 = .ok (.ifCond .eq 7, 3) := by decide +kernel
theorem dX8_pass_4 : decode cX8_pass 4 = .ok (.aload_n 0, 1) := by decide +kernel
theorem dX8_pass_5 : decode cX8_pass 5 = .ok (.invokevirtual 37, 3) := by decide +kernel
theorem dX8_pass_8 : decode cX8_pass 8 = .ok (.iload_n 1, 1) := by decide +kernel
theorem dX8_pass_9 : decode cX8_pass 9 = .ok (.ireturn, 1) := by decide +kernel
set_option maxRecDepth 20000 in
theorem ggX8_step_X8_byteAt : GoodIn wsX8_step wsX8_byteAt := goodIn_r _ [8, 3, 9, 13, 14, 15, 16, 17, 18, 19, 20] (by decide +kernel) (by decide +kernel)
set_option maxRecDepth 20000 in
theorem gX8_step_X8_byteAt : GoodIn wsX8_step (wsV RX8 89 RX8 yX8_byteAt wsX8_byteAt) := goodIn_app (goodIn_of _ (by decide +kernel)) ggX8_step_X8_byteAt
set_option maxRecDepth 20000 in
theorem ggX8_step_X8_kindOf : GoodIn wsX8_step wsX8_kindOf := goodIn_r _ [12] (by decide +kernel) (by decide +kernel)
set_option maxRecDepth 20000 in
theorem gX8_step_X8_kindOf : GoodIn wsX8_step (va_wsS RX8 93 yX8_kindOf wsX8_kindOf) := goodIn_app (goodIn_of _ (by decide +kernel)) ggX8_step_X8_kindOf
theorem dX8_step_0 : decode cX8_step 0 = .ok (.aload_n 0, 1) := by decide +kernel
theorem dX8_step_1 : decode cX8_step 1 = .ok (.aload_n 0, 1) := by decide +kernel
theorem dX8_step_2 : decode cX8_step 2 = .ok (.getfield 22, 3) := by decide +kernel
theorem dX8_step_5 : decode cX8_step 5 = .ok (.putfield 19, 3) := by decide +kernel
theorem dX8_step_8 : decode cX8_step 8 = .ok (.aload_n 0, 1) := by decide +kernel
theorem dX8_step_9 : decode cX8_step 9 = .ok (.getfield 19, 3) := by decide +kernel
theorem dX8_step_12 : decode cX8_step 12 = .ok (.aload_n 0, 1) := by decide +kernel
theorem dX8_step_13 : decode cX8_step 13 = .ok (.getfield 15, 3) := by decide +kernel
theorem dX8_step_16 : decode cX8_step 16 = .ok (.if_icmp .ge 29, 3) := by decide +kernel
theorem dX8_step_19 : decode cX8_step 19 = .ok (.aload_n 0, 1) := by decide +kernel
theorem dX8_step_20 : decode cX8_step 20 = .ok (.aload_n 0, 1) := by decide +kernel
theorem dX8_step_21 : decode cX8_step 21 = .ok (.getfield 19, 3) := by decide +kernel
theorem dX8_step_24 : decode cX8_step 24 = .ok (.invokevirtual 89, 3) := by decide +kernel
theorem dX8_step_27 : decode cX8_step 27 = .ok (.bipush 32, 2) := by decide +kernel
theorem dX8_step_29 : decode cX8_step 29 = .ok (.if_icmp .ne 16, 3) := by decide +kernel
theorem dX8_step_32 : decode cX8_step 32 = .ok (.aload_n 0, 1) := by decide +kernel
theorem dX8_step_33 : decode cX8_step 33 = .ok (.dup, 1) := by decide +kernel
theorem dX8_step_34 : decode cX8_step 34 = .ok (.getfield 19, 3) := by decide +kernel
theorem dX8_step_37 : decode cX8_step 37 = .ok (.iconst 1, 1) := by decide +kernel
theorem dX8_step_38 : decode cX8_step 38 = .ok (.iadd, 1) := by decide +kernel
theorem dX8_step_39 : decode cX8_step 39 = .ok (.putfield 19, 3) := by decide +kernel
theorem dX8_step_42 : decode cX8_step 42 = .ok (.goto (-34), 3) := by decide +kernel
theorem dX8_step_45 : decode cX8_step 45 = .ok (.aload_n 0, 1) := by decide +kernel
theorem dX8_step_46 : decode cX8_step 46 = .ok (.aload_n 0, 1) := by decide +kernel
theorem dX8_step_47 : decode cX8_step 47 = .ok (.getfield 19, 3) := by decide +kernel
theorem dX8_step_50 : decode cX8_step 50 = .ok (.putfield 22, 3) := by decide +kernel
theorem dX8_step_53 : decode cX8_step 53 = .ok (.aload_n 0, 1) := by decide +kernel
theorem dX8_step_54 : decode cX8_step 54 = .ok (.getfield 19, 3) := by decide +kernel
theorem dX8_step_57 : decode cX8_step 57 = .ok (.aload_n 0, 1) := by decide +kernel
theorem dX8_step_58 : decode cX8_step 58 = .ok (.getfield 15, 3) := by decide +kernel
theorem dX8_step_61 : decode cX8_step 61 = .ok (.if_icmp .lt 4, 3) := by decide +kernel
theorem dX8_step_64 : decode cX8_step 64 = .ok (.return_, 1) := by decide +kernel
theorem dX8_step_65 : decode cX8_step 65 = .ok (.aload_n 0, 1) := by decide +kernel
theorem dX8_step_66 : decode cX8_step 66 = .ok (.dup, 1) := by decide +kernel
theorem dX8_step_67 : decode cX8_step 67 = .ok (.getfield 22, 3) := by decide +kernel
theorem dX8_step_70 : decode cX8_step 70 = .ok (.iconst 1, 1) := by decide +kernel
theorem dX8_step_71 : decode cX8_step 71 = .ok (.iadd, 1) := by decide +kernel
theorem dX8_step_72 : decode cX8_step 72 = .ok (.putfield 22, 3) := by decide +kernel
theorem dX8_step_75 : decode cX8_step 75 = .ok (.aload_n 0, 1) := by decide +kernel
theorem dX8_step_76 : decode cX8_step 76 = .ok (.aload_n 0, 1) := by decide +kernel
theorem dX8_step_77 : decode cX8_step 77 = .ok (.getfield 19, 3) := by decide +kernel
theorem dX8_step_80 : decode cX8_step 80 = .ok (.invokevirtual 89, 3) := by decide +kernel
theorem dX8_step_83 : decode cX8_step 83 = .ok (.invokestatic 93, 3) := by decide +kernel
theorem dX8_step_86 : decode cX8_step 86 = .ok (.istore_n 1, 1) := by decide +kernel
theorem dX8_step_87 : decode cX8_step 87 = .ok (.iload_n 1, 1) := by decide +kernel
theorem dX8_step_88 : decode cX8_step 88 = .ok (.ifCond .eq 42, 3) := by decide +kernel
theorem dX8_step_91 : decode cX8_step 91 = .ok (.aload_n 0, 1) := by decide +kernel
theorem dX8_step_92 : decode cX8_step 92 = .ok (.getfield 22, 3) := by decide +kernel
theorem dX8_step_95 : decode cX8_step 95 = .ok (.aload_n 0, 1) := by decide +kernel
theorem dX8_step_96 : decode cX8_step 96 = .ok (.getfield 15, 3) := by decide +kernel
theorem dX8_step_99 : decode cX8_step 99 = .ok (.if_icmp .ge 31, 3) := by decide +kernel
theorem dX8_step_102 : decode cX8_step 102 = .ok (.aload_n 0, 1) := by decide +kernel
theorem dX8_step_103 : decode cX8_step 103 = .ok (.aload_n 0, 1) := by decide +kernel
theorem dX8_step_104 : decode cX8_step 104 = .ok (.getfield 22, 3) := by decide +kernel
theorem dX8_step_107 : decode cX8_step 107 = .ok (.invokevirtual 89, 3) := by decide +kernel
theorem dX8_step_110 : decode cX8_step 110 = .ok (.invokestatic 93, 3) := by decide +kernel
theorem dX8_step_113 : decode cX8_step 113 = .ok (.iload_n 1, 1) := by decide +kernel
theorem dX8_step_114 : decode cX8_step 114 = .ok (.if_icmp .ne 16, 3) := by decide +kernel
theorem dX8_step_117 : decode cX8_step 117 = .ok (.aload_n 0, 1) := by decide +kernel
theorem dX8_step_118 : decode cX8_step 118 = .ok (.dup, 1) := by decide +kernel
theorem dX8_step_119 : decode cX8_step 119 = .ok (.getfield 22, 3) := by decide +kernel
theorem dX8_step_122 : decode cX8_step 122 = .ok (.iconst 1, 1) := by decide +kernel
theorem dX8_step_123 : decode cX8_step 123 = .ok (.iadd, 1) := by decide +kernel
theorem dX8_step_124 : decode cX8_step 124 = .ok (.putfield 22, 3) := by decide +kernel
theorem dX8_step_127 : decode cX8_step 127 = .ok (.goto (-40), 3) := by decide +kernel
theorem dX8_step_130 : decode cX8_step 130 = .ok (.return_, 1) := by decide +kernel
set_option maxRecDepth 20000 in
theorem ggX8_head_X8_byteAt : GoodIn wsX8_head wsX8_byteAt := goodIn_r _ [7, 2, 8, 9, 10, 11, 12, 13, 14, 15, 16] (by decide +kernel) (by decide +kernel)
set_option maxRecDepth 20000 in
theorem gX8_head_X8_byteAt : GoodIn wsX8_head (wsV RX8 89 RX8 yX8_byteAt wsX8_byteAt) := goodIn_app (goodIn_of _ (by decide +kernel)) ggX8_head_X8_byteAt
theorem dX8_head_0 : decode cX8_head 0 = .ok (.aload_n 0, 1) := by decide +kernel
theorem dX8_head_1 : decode cX8_head 1 = .ok (.getfield 19, 3) := by decide +kernel
theorem dX8_head_4 : decode cX8_head 4 = .ok (.aload_n 0, 1) := by decide +kernel
theorem dX8_head_5 : decode cX8_head 5 = .ok (.getfield 15, 3) := by decide +kernel
theorem dX8_head_8 : decode cX8_head 8 = .ok (.if_icmp .ge 14, 3) := by decide +kernel
theorem dX8_head_11 : decode cX8_head 11 = .ok (.aload_n 0, 1) := by decide +kernel
theorem dX8_head_12 : decode cX8_head 12 = .ok (.aload_n 0, 1) := by decide +kernel
theorem dX8_head_13 : decode cX8_head 13 = .ok (.getfield 19, 3) := by decide +kernel
theorem dX8_head_16 : decode cX8_head 16 = .ok (.invokevirtual 89, 3) := by decide +kernel
theorem dX8_head_19 : decode cX8_head 19 = .ok (.goto 4, 3) := by decide +kernel
theorem dX8_head_22 : decode cX8_head 22 = .ok (.iconst (-1), 1) := by decide +kernel
theorem dX8_head_23 : decode cX8_head 23 = .ok (.ireturn, 1) := by decide +kernel
set_option maxRecDepth 20000 in
theorem ggX8_digit_X8_head : GoodIn wsX8_digit wsX8_head := goodIn_r _ [7, 2, 8, 9, 10, 11, 6, 12, 13, 17, 18, 19, 20, 21, 22, 23, 24] (by decide +kernel) (by decide +kernel)
set_option maxRecDepth 20000 in
theorem gX8_digit_X8_head : GoodIn wsX8_digit (wsV RX8 50 RX8 yX8_head wsX8_head) := goodIn_app (goodIn_of _ (by decide +kernel)) ggX8_digit_X8_head
set_option maxRecDepth 20000 in
theorem ggX8_digit_X8_kindOf : GoodIn wsX8_digit wsX8_kindOf := goodIn_r _ [16] (by decide +kernel) (by decide +kernel)
set_option maxRecDepth 20000 in
theorem gX8_digit_X8_kindOf : GoodIn wsX8_digit (va_wsS RX8 93 yX8_kindOf wsX8_kindOf) := goodIn_app (goodIn_of _ (by decide +kernel)) ggX8_digit_X8_kindOf
theorem dX8_digit_0 : decode cX8_digit 0 = .ok (.aload_n 0, 1) := by decide +kernel
theorem dX8_digit_1 : decode cX8_digit 1 = .ok (.getfield 22, 3) := by decide +kernel
theorem dX8_digit_4 : decode cX8_digit 4 = .ok (.aload_n 0, 1) := by decide +kernel
theorem dX8_digit_5 : decode cX8_digit 5 = .ok (.getfield 19, 3) := by decide +kernel
theorem dX8_digit_8 : decode cX8_digit 8 = .ok (.isub, 1) := by decide +kernel
theorem dX8_digit_9 : decode cX8_digit 9 = .ok (.iconst 1, 1) := by decide +kernel
theorem dX8_digit_10 : decode cX8_digit 10 = .ok (.if_icmp .ne 24, 3) := by decide +kernel
theorem dX8_digit_13 : decode cX8_digit 13 = .ok (.aload_n 0, 1) := by decide +kernel
theorem dX8_digit_14 : decode cX8_digit 14 = .ok (.invokevirtual 50, 3) := by decide +kernel
theorem dX8_digit_17 : decode cX8_digit 17 = .ok (.invokestatic 93, 3) := by decide +kernel
theorem dX8_digit_20 : decode cX8_digit 20 = .ok (.iconst 2, 1) := by decide +kernel
theorem dX8_digit_21 : decode cX8_digit 21 = .ok (.if_icmp .ne 13, 3) := by decide +kernel
theorem dX8_digit_24 : decode cX8_digit 24 = .ok (.aload_n 0, 1) := by decide +kernel
theorem dX8_digit_25 : decode cX8_digit 25 = .ok (.invokevirtual 50, 3) := by decide +kernel
theorem dX8_digit_28 : decode cX8_digit 28 = .ok (.bipush 48, 2) := by decide +kernel
theorem dX8_digit_30 : decode cX8_digit 30 = .ok (.isub, 1) := by decide +kernel
theorem dX8_digit_31 : decode cX8_digit 31 = .ok (.goto 4, 3) := by decide +kernel
theorem dX8_digit_34 : decode cX8_digit 34 = .ok (.iconst (-1), 1) := by decide +kernel
theorem dX8_digit_35 : decode cX8_digit 35 = .ok (.ireturn, 1) := by decide +kernel
set_option maxRecDepth 20000 in
theorem ggX8_isWord_J0_length_8abf5 : GoodIn wsX8_isWord wsJ0_length_8abf5 := goodIn_r _ [7, 8, 9, 10, 11, 6, 12, 13, 14] (by decide +kernel) (by decide +kernel)
set_option maxRecDepth 20000 in
theorem gX8_isWord_J0_length_8abf5 : GoodIn wsX8_isWord (wsV RX8 96 RJ0 yJ0_length_8abf5 wsJ0_length_8abf5) := goodIn_app (goodIn_of _ (by decide +kernel)) ggX8_isWord_J0_length_8abf5
set_option maxRecDepth 20000 in
theorem ggX8_isWord_X8_byteAt : GoodIn wsX8_isWord wsX8_byteAt := goodIn_r _ [19, 20, 21, 59, 60, 61, 62, 63, 64, 65, 66] (by decide +kernel) (by decide +kernel)
set_option maxRecDepth 20000 in
theorem gX8_isWord_X8_byteAt : GoodIn wsX8_isWord (wsV RX8 89 RX8 yX8_byteAt wsX8_byteAt) := goodIn_app (goodIn_of _ (by decide +kernel)) ggX8_isWord_X8_byteAt
set_option maxRecDepth 20000 in
theorem ggX8_isWord_J0_charAt_5068e : GoodIn wsX8_isWord wsJ0_charAt_5068e := goodIn_r _ [25, 8, 26, 27, 28, 6, 29, 13, 14, 30, 31, 32, 33, 34, 35, 36, 37, 38, 39, 40, 41, 42, 43, 44, 45, 46, 47, 48, 49, 50, 51, 52, 53, 54, 55, 56, 57, 58] (by decide +kernel) (by decide +kernel)
set_option maxRecDepth 20000 in
theorem gX8_isWord_J0_charAt_5068e : GoodIn wsX8_isWord (wsV RX8 101 RJ0 yJ0_charAt_5068e wsJ0_charAt_5068e) := goodIn_app (goodIn_of _ (by decide +kernel)) ggX8_isWord_J0_charAt_5068e
theorem dX8_isWord_0 : decode cX8_isWord 0 = .ok (.aload_n 0, 1) := by decide +kernel
theorem dX8_isWord_1 : decode cX8_isWord 1 = .ok (.getfield 22, 3) := by decide +kernel
theorem dX8_isWord_4 : decode cX8_isWord 4 = .ok (.aload_n 0, 1) := by decide +kernel
theorem dX8_isWord_5 : decode cX8_isWord 5 = .ok (.getfield 19, 3) := by decide +kernel
theorem dX8_isWord_8 : decode cX8_isWord 8 = .ok (.isub, 1) := by decide +kernel
theorem dX8_isWord_9 : decode cX8_isWord 9 = .ok (.aload_n 1, 1) := by decide +kernel
theorem dX8_isWord_10 : decode cX8_isWord 10 = .ok (.invokevirtual 96, 3) := by decide +kernel
theorem dX8_isWord_13 : decode cX8_isWord 13 = .ok (.if_icmp .ne 7, 3) := by decide +kernel
theorem dX8_isWord_16 : decode cX8_isWord 16 = .ok (.iconst 1, 1) := by decide +kernel
theorem dX8_isWord_17 : decode cX8_isWord 17 = .ok (.goto 4, 3) := by decide +kernel
theorem dX8_isWord_20 : decode cX8_isWord 20 = .ok (.iconst 0, 1) := by decide +kernel
theorem dX8_isWord_21 : decode cX8_isWord 21 = .ok (.istore_n 2, 1) := by decide +kernel
theorem dX8_isWord_22 : decode cX8_isWord 22 = .ok (.iconst 0, 1) := by decide +kernel
theorem dX8_isWord_23 : decode cX8_isWord 23 = .ok (.istore_n 3, 1) := by decide +kernel
theorem dX8_isWord_24 : decode cX8_isWord 24 = .ok (.iload_n 2, 1) := by decide +kernel
theorem dX8_isWord_25 : decode cX8_isWord 25 = .ok (.ifCond .eq 41, 3) := by decide +kernel
theorem dX8_isWord_28 : decode cX8_isWord 28 = .ok (.iload_n 3, 1) := by decide +kernel
theorem dX8_isWord_29 : decode cX8_isWord 29 = .ok (.aload_n 1, 1) := by decide +kernel
theorem dX8_isWord_30 : decode cX8_isWord 30 = .ok (.invokevirtual 96, 3) := by decide +kernel
theorem dX8_isWord_33 : decode cX8_isWord 33 = .ok (.if_icmp .ge 33, 3) := by decide +kernel
theorem dX8_isWord_36 : decode cX8_isWord 36 = .ok (.aload_n 0, 1) := by decide +kernel
theorem dX8_isWord_37 : decode cX8_isWord 37 = .ok (.aload_n 0, 1) := by decide +kernel
theorem dX8_isWord_38 : decode cX8_isWord 38 = .ok (.getfield 19, 3) := by decide +kernel
theorem dX8_isWord_41 : decode cX8_isWord 41 = .ok (.iload_n 3, 1) := by decide +kernel
theorem dX8_isWord_42 : decode cX8_isWord 42 = .ok (.iadd, 1) := by decide +kernel
theorem dX8_isWord_43 : decode cX8_isWord 43 = .ok (.invokevirtual 89, 3) := by decide +kernel
theorem dX8_isWord_46 : decode cX8_isWord 46 = .ok (.aload_n 1, 1) := by decide +kernel
theorem dX8_isWord_47 : decode cX8_isWord 47 = .ok (.iload_n 3, 1) := by decide +kernel
theorem dX8_isWord_48 : decode cX8_isWord 48 = .ok (.invokevirtual 101, 3) := by decide +kernel
theorem dX8_isWord_51 : decode cX8_isWord 51 = .ok (.if_icmp .ne 7, 3) := by decide +kernel
theorem dX8_isWord_54 : decode cX8_isWord 54 = .ok (.iconst 1, 1) := by decide +kernel
theorem dX8_isWord_55 : decode cX8_isWord 55 = .ok (.goto 4, 3) := by decide +kernel
theorem dX8_isWord_58 : decode cX8_isWord 58 = .ok (.iconst 0, 1) := by decide +kernel
theorem dX8_isWord_59 : decode cX8_isWord 59 = .ok (.istore_n 2, 1) := by decide +kernel
theorem dX8_isWord_60 : decode cX8_isWord 60 = .ok (.iinc 3 1, 3) := by decide +kernel
theorem dX8_isWord_63 : decode cX8_isWord 63 = .ok (.goto (-39), 3) := by decide +kernel
theorem dX8_isWord_66 : decode cX8_isWord 66 = .ok (.iload_n 2, 1) := by decide +kernel
theorem dX8_isWord_67 : decode cX8_isWord 67 = .ok (.ireturn, 1) := by decide +kernel
theorem dX8_kindOf_0 : decode cX8_kindOf 0 = .ok (.iload_n 0, 1) := by decide +kernel
theorem dX8_kindOf_1 : decode cX8_kindOf 1 = .ok (.bipush 97, 2) := by decide +kernel
theorem dX8_kindOf_3 : decode cX8_kindOf 3 = .ok (.if_icmp .lt 11, 3) := by decide +kernel
theorem dX8_kindOf_6 : decode cX8_kindOf 6 = .ok (.iload_n 0, 1) := by decide +kernel
theorem dX8_kindOf_7 : decode cX8_kindOf 7 = .ok (.bipush 122, 2) := by decide +kernel
theorem dX8_kindOf_9 : decode cX8_kindOf 9 = .ok (.if_icmp .gt 5, 3) := by decide +kernel
theorem dX8_kindOf_12 : decode cX8_kindOf 12 = .ok (.iconst 1, 1) := by decide +kernel
theorem dX8_kindOf_13 : decode cX8_kindOf 13 = .ok (.ireturn, 1) := by decide +kernel
theorem dX8_kindOf_14 : decode cX8_kindOf 14 = .ok (.iload_n 0, 1) := by decide +kernel
theorem dX8_kindOf_15 : decode cX8_kindOf 15 = .ok (.bipush 48, 2) := by decide +kernel
theorem dX8_kindOf_17 : decode cX8_kindOf 17 = .ok (.if_icmp .lt 13, 3) := by decide +kernel
theorem dX8_kindOf_20 : decode cX8_kindOf 20 = .ok (.iload_n 0, 1) := by decide +kernel
theorem dX8_kindOf_21 : decode cX8_kindOf 21 = .ok (.bipush 57, 2) := by decide +kernel
theorem dX8_kindOf_23 : decode cX8_kindOf 23 = .ok (.if_icmp .gt 7, 3) := by decide +kernel
theorem dX8_kindOf_26 : decode cX8_kindOf 26 = .ok (.iconst 2, 1) := by decide +kernel
theorem dX8_kindOf_27 : decode cX8_kindOf 27 = .ok (.goto 4, 3) := by decide +kernel
theorem dX8_kindOf_30 : decode cX8_kindOf 30 = .ok (.iconst 0, 1) := by decide +kernel
theorem dX8_kindOf_31 : decode cX8_kindOf 31 = .ok (.ireturn, 1) := by decide +kernel
theorem dX8_byteAt_0 : decode cX8_byteAt 0 = .ok (.iload_n 1, 1) := by decide +kernel
theorem dX8_byteAt_1 : decode cX8_byteAt 1 = .ok (.ifCond .lt 20, 3) := by decide +kernel
theorem dX8_byteAt_4 : decode cX8_byteAt 4 = .ok (.iload_n 1, 1) := by decide +kernel
theorem dX8_byteAt_5 : decode cX8_byteAt 5 = .ok (.aload_n 0, 1) := by decide +kernel
theorem dX8_byteAt_6 : decode cX8_byteAt 6 = .ok (.getfield 15, 3) := by decide +kernel
theorem dX8_byteAt_9 : decode cX8_byteAt 9 = .ok (.if_icmp .ge 12, 3) := by decide +kernel
theorem dX8_byteAt_12 : decode cX8_byteAt 12 = .ok (.aload_n 0, 1) := by decide +kernel
theorem dX8_byteAt_13 : decode cX8_byteAt 13 = .ok (.getfield 9, 3) := by decide +kernel
theorem dX8_byteAt_16 : decode cX8_byteAt 16 = .ok (.iload_n 1, 1) := by decide +kernel
theorem dX8_byteAt_17 : decode cX8_byteAt 17 = .ok (.iaload, 1) := by decide +kernel
theorem dX8_byteAt_18 : decode cX8_byteAt 18 = .ok (.goto 4, 3) := by decide +kernel
theorem dX8_byteAt_21 : decode cX8_byteAt 21 = .ok (.iconst (-1), 1) := by decide +kernel
theorem dX8_byteAt_22 : decode cX8_byteAt 22 = .ok (.ireturn, 1) := by decide +kernel
theorem dX9_init_0 : decode cX9_init 0 = .ok (.aload_n 0, 1) := by decide +kernel
theorem dX9_init_1 : decode cX9_init 1 = .ok (.invokespecial 3, 3) := by decide +kernel
theorem dX9_init_4 : decode cX9_init 4 = .ok (.aload_n 0, 1) := by decide +kernel
theorem dX9_init_5 : decode cX9_init 5 = .ok (.bipush 25, 2) := by decide +kernel
theorem dX9_init_7 : decode cX9_init 7 = .ok (.newarray .int, 2) := by decide +kernel
theorem dX9_init_9 : decode cX9_init 9 = .ok (.putfield 9, 3) := by decide +kernel
theorem dX9_init_12 : decode cX9_init 12 = .ok (.aload_n 0, 1) := by decide +kernel
theorem dX9_init_13 : decode cX9_init 13 = .ok (.bipush 25, 2) := by decide +kernel
theorem dX9_init_15 : decode cX9_init 15 = .ok (.newarray .int, 2) := by decide +kernel
theorem dX9_init_17 : decode cX9_init 17 = .ok (.putfield 15, 3) := by decide +kernel
theorem dX9_init_20 : decode cX9_init 20 = .ok (.aload_n 0, 1) := by decide +kernel
theorem dX9_init_21 : decode cX9_init 21 = .ok (.iconst 0, 1) := by decide +kernel
theorem dX9_init_22 : decode cX9_init 22 = .ok (.putfield 18, 3) := by decide +kernel
theorem dX9_init_25 : decode cX9_init 25 = .ok (.return_, 1) := by decide +kernel
theorem dX9_comeAt_0 : decode cX9_comeAt 0 = .ok (.iload_n 1, 1) := by decide +kernel
theorem dX9_comeAt_1 : decode cX9_comeAt 1 = .ok (.ifCond .lt 21, 3) := by decide +kernel
theorem dX9_comeAt_4 : decode cX9_comeAt 4 = .ok (.iload_n 1, 1) := by decide +kernel
theorem dX9_comeAt_5 : decode cX9_comeAt 5 = .ok (.aload_n 0, 1) := by decide +kernel
theorem dX9_comeAt_6 : decode cX9_comeAt 6 = .ok (.getfield 9, 3) := by decide +kernel
theorem dX9_comeAt_9 : decode cX9_comeAt 9 = .ok (.arraylength, 1) := by decide +kernel
theorem dX9_comeAt_10 : decode cX9_comeAt 10 = .ok (.if_icmp .ge 12, 3) := by decide +kernel
theorem dX9_comeAt_13 : decode cX9_comeAt 13 = .ok (.aload_n 0, 1) := by decide +kernel
theorem dX9_comeAt_14 : decode cX9_comeAt 14 = .ok (.getfield 9, 3) := by decide +kernel
theorem dX9_comeAt_17 : decode cX9_comeAt 17 = .ok (.iload_n 1, 1) := by decide +kernel
theorem dX9_comeAt_18 : decode cX9_comeAt 18 = .ok (.iaload, 1) := by decide +kernel
theorem dX9_comeAt_19 : decode cX9_comeAt 19 = .ok (.goto 4, 3) := by decide +kernel
theorem dX9_comeAt_22 : decode cX9_comeAt 22 = .ok (.iconst 0, 1) := by decide +kernel
theorem dX9_comeAt_23 : decode cX9_comeAt 23 = .ok (.ireturn, 1) := by decide +kernel
theorem dX9_sinceAt_0 : decode cX9_sinceAt 0 = .ok (.iload_n 1, 1) := by decide +kernel
theorem dX9_sinceAt_1 : decode cX9_sinceAt 1 = .ok (.ifCond .lt 21, 3) := by decide +kernel
theorem dX9_sinceAt_4 : decode cX9_sinceAt 4 = .ok (.iload_n 1, 1) := by decide +kernel
theorem dX9_sinceAt_5 : decode cX9_sinceAt 5 = .ok (.aload_n 0, 1) := by decide +kernel
theorem dX9_sinceAt_6 : decode cX9_sinceAt 6 = .ok (.getfield 15, 3) := by decide +kernel
theorem dX9_sinceAt_9 : decode cX9_sinceAt 9 = .ok (.arraylength, 1) := by decide +kernel
theorem dX9_sinceAt_10 : decode cX9_sinceAt 10 = .ok (.if_icmp .ge 12, 3) := by decide +kernel
theorem dX9_sinceAt_13 : decode cX9_sinceAt 13 = .ok (.aload_n 0, 1) := by decide +kernel
theorem dX9_sinceAt_14 : decode cX9_sinceAt 14 = .ok (.getfield 15, 3) := by decide +kernel
theorem dX9_sinceAt_17 : decode cX9_sinceAt 17 = .ok (.iload_n 1, 1) := by decide +kernel
theorem dX9_sinceAt_18 : decode cX9_sinceAt 18 = .ok (.iaload, 1) := by decide +kernel
theorem dX9_sinceAt_19 : decode cX9_sinceAt 19 = .ok (.goto 4, 3) := by decide +kernel
theorem dX9_sinceAt_22 : decode cX9_sinceAt 22 = .ok (.iconst 0, 1) := by decide +kernel
theorem dX9_sinceAt_23 : decode cX9_sinceAt 23 = .ok (.ireturn, 1) := by decide +kernel
set_option maxRecDepth 20000 in
theorem ggX9_begin_X5_identity : GoodIn wsX9_begin wsX5_identity := goodIn_r _ [8, 9, 10, 11, 7, 12, 16, 17, 18, 19, 20] (by decide +kernel) (by decide +kernel)
set_option maxRecDepth 20000 in
theorem gX9_begin_X5_identity : GoodIn wsX9_begin (wsV RX9 22 RX5 yX5_identity wsX5_identity) := goodIn_app (goodIn_of _ (by decide +kernel)) ggX9_begin_X5_identity
theorem dX9_begin_0 : decode cX9_begin 0 = .ok (.aload_n 0, 1) := by decide +kernel
theorem dX9_begin_1 : decode cX9_begin 1 = .ok (.aload_n 1, 1) := by decide +kernel
theorem dX9_begin_2 : decode cX9_begin 2 = .ok (.invokevirtual 22, 3) := by decide +kernel
theorem dX9_begin_5 : decode cX9_begin 5 = .ok (.putfield 18, 3) := by decide +kernel
theorem dX9_begin_8 : decode cX9_begin 8 = .ok (.aload_n 0, 1) := by decide +kernel
theorem dX9_begin_9 : decode cX9_begin 9 = .ok (.getfield 9, 3) := by decide +kernel
theorem dX9_begin_12 : decode cX9_begin 12 = .ok (.iconst 0, 1) := by decide +kernel
theorem dX9_begin_13 : decode cX9_begin 13 = .ok (.iconst 1, 1) := by decide +kernel
theorem dX9_begin_14 : decode cX9_begin 14 = .ok (.iastore, 1) := by decide +kernel
theorem dX9_begin_15 : decode cX9_begin 15 = .ok (.aload_n 0, 1) := by decide +kernel
theorem dX9_begin_16 : decode cX9_begin 16 = .ok (.getfield 15, 3) := by decide +kernel
theorem dX9_begin_19 : decode cX9_begin 19 = .ok (.iconst 0, 1) := by decide +kernel
theorem dX9_begin_20 : decode cX9_begin 20 = .ok (.aload_n 0, 1) := by decide +kernel
theorem dX9_begin_21 : decode cX9_begin 21 = .ok (.getfield 18, 3) := by decide +kernel
theorem dX9_begin_24 : decode cX9_begin 24 = .ok (.iastore, 1) := by decide +kernel
theorem dX9_begin_25 : decode cX9_begin 25 = .ok (.return_, 1) := by decide +kernel
set_option maxRecDepth 20000 in
theorem ggX9_follow_X9_begin : GoodIn wsX9_follow wsX9_begin := goodIn_r _ [5, 6, 7, 8, 9, 10, 11, 12, 13, 14, 15, 16, 17, 76, 77, 78, 79, 80, 81, 82, 83] (by decide +kernel) (by decide +kernel)
set_option maxRecDepth 20000 in
theorem gX9_follow_X9_begin : GoodIn wsX9_follow (wsV RX9 28 RX9 yX9_begin wsX9_begin) := goodIn_app (goodIn_of _ (by decide +kernel)) ggX9_follow_X9_begin
set_option maxRecDepth 20000 in
theorem ggX9_follow_X9_step : GoodIn wsX9_follow wsX9_step := goodIn_r _ [21, 8, 7, 6, 22, 23, 24, 25, 26, 27, 28, 29, 30, 31, 32, 33, 34, 35, 36, 37, 38, 39, 40, 12, 41, 42, 43, 44, 45, 46, 47, 48, 49, 50, 51, 52, 4, 53, 54, 55, 56, 57, 58, 59, 60, 61, 62, 63, 64, 65, 66, 67, 68, 69, 70, 71, 72, 73, 74, 75, 76, 77, 78, 84, 85, 86, 79, 80, 81, 82, 83] (by decide +kernel) (by decide +kernel)
set_option maxRecDepth 20000 in
theorem gX9_follow_X9_step : GoodIn wsX9_follow (wsV RX9 32 RX9 yX9_step wsX9_step) := goodIn_app (goodIn_of _ (by decide +kernel)) ggX9_follow_X9_step
theorem dX9_follow_0 : decode cX9_follow 0 = .ok (.aload_n 0, 1) := by decide +kernel
theorem dX9_follow_1 : decode cX9_follow 1 = .ok (.aload_n 1, 1) := by decide +kernel
theorem dX9_follow_2 : decode cX9_follow 2 = .ok (.invokevirtual 28, 3) := by decide +kernel
theorem dX9_follow_5 : decode cX9_follow 5 = .ok (.iconst 0, 1) := by decide +kernel
theorem dX9_follow_6 : decode cX9_follow 6 = .ok (.istore 4, 2) := by decide +kernel
theorem dX9_follow_8 : decode cX9_follow 8 = .ok (.iload 4, 2) := by decide +kernel
theorem dX9_follow_10 : decode cX9_follow 10 = .ok (.iload_n 3, 1) := by decide +kernel
theorem dX9_follow_11 : decode cX9_follow 11 = .ok (.if_icmp .ge 17, 3) := by decide +kernel
theorem dX9_follow_14 : decode cX9_follow 14 = .ok (.aload_n 0, 1) := by decide +kernel
theorem dX9_follow_15 : decode cX9_follow 15 = .ok (.aload_n 1, 1) := by decide +kernel
theorem dX9_follow_16 : decode cX9_follow 16 = .ok (.aload_n 2, 1) := by decide +kernel
theorem dX9_follow_17 : decode cX9_follow 17 = .ok (.iload 4, 2) := by decide +kernel
theorem dX9_follow_19 : decode cX9_follow 19 = .ok (.invokevirtual 32, 3) := by decide +kernel
theorem dX9_follow_22 : decode cX9_follow 22 = .ok (.iinc 4 1, 3) := by decide +kernel
theorem dX9_follow_25 : decode cX9_follow 25 = .ok (.goto (-17), 3) := by decide +kernel
theorem dX9_follow_28 : decode cX9_follow 28 = .ok (.return_, 1) := by decide +kernel
set_option maxRecDepth 20000 in
theorem ggX9_step_X6_letterAt : GoodIn wsX9_step wsX6_letterAt := goodIn_r _ [8, 9, 10, 63, 64, 65] (by decide +kernel) (by decide +kernel)
set_option maxRecDepth 20000 in
theorem gX9_step_X6_letterAt : GoodIn wsX9_step (wsV RX9 36 RX6 yX6_letterAt wsX6_letterAt) := goodIn_app (goodIn_of _ (by decide +kernel)) ggX9_step_X6_letterAt
set_option maxRecDepth 20000 in
theorem ggX9_step_X6_openAt : GoodIn wsX9_step wsX6_openAt := goodIn_r _ [14, 15, 16, 17, 7, 18, 9, 19, 20, 5, 6, 8, 10, 21, 22, 23, 24, 63, 64, 65] (by decide +kernel) (by decide +kernel)
set_option maxRecDepth 20000 in
theorem gX9_step_X6_openAt : GoodIn wsX9_step (wsV RX9 42 RX6 yX6_openAt wsX6_openAt) := goodIn_app (goodIn_of _ (by decide +kernel)) ggX9_step_X6_openAt
set_option maxRecDepth 20000 in
theorem ggX9_step_X5_isPlain : GoodIn wsX9_step wsX5_isPlain := goodIn_r _ [27] (by decide +kernel) (by decide +kernel)
set_option maxRecDepth 20000 in
theorem gX9_step_X5_isPlain : GoodIn wsX9_step (va_wsS RX9 45 yX5_isPlain wsX5_isPlain) := goodIn_app (goodIn_of _ (by decide +kernel)) ggX9_step_X5_isPlain
set_option maxRecDepth 20000 in
theorem ggX9_step_X5_way : GoodIn wsX9_step wsX5_way := goodIn_r _ [31, 32, 66, 67, 68, 69, 70] (by decide +kernel) (by decide +kernel)
set_option maxRecDepth 20000 in
theorem gX9_step_X5_way : GoodIn wsX9_step (wsV RX9 49 RX5 yX5_way wsX5_way) := goodIn_app (goodIn_of _ (by decide +kernel)) ggX9_step_X5_way
set_option maxRecDepth 20000 in
theorem ggX9_step_X9_goOn : GoodIn wsX9_step wsX9_goOn := goodIn_r _ [37, 2, 1, 38, 39, 23, 40, 41, 42, 43, 44, 60, 61, 62] (by decide +kernel) (by decide +kernel)
set_option maxRecDepth 20000 in
theorem gX9_step_X9_goOn : GoodIn wsX9_step (wsV RX9 53 RX9 yX9_goOn wsX9_goOn) := goodIn_app (goodIn_of _ (by decide +kernel)) ggX9_step_X9_goOn
set_option maxRecDepth 20000 in
theorem ggX9_step_X5_closes : GoodIn wsX9_step wsX5_closes := goodIn_r _ [47] (by decide +kernel) (by decide +kernel)
set_option maxRecDepth 20000 in
theorem gX9_step_X5_closes : GoodIn wsX9_step (va_wsS RX9 57 yX5_closes wsX5_closes) := goodIn_app (goodIn_of _ (by decide +kernel)) ggX9_step_X5_closes
set_option maxRecDepth 20000 in
theorem ggX9_step_X5_wrapped : GoodIn wsX9_step wsX5_wrapped := goodIn_r _ [51, 52, 53, 29, 30, 23, 31, 32, 54, 42, 43, 44, 39, 40, 66, 67, 68, 69, 70] (by decide +kernel) (by decide +kernel)
set_option maxRecDepth 20000 in
theorem gX9_step_X5_wrapped : GoodIn wsX9_step (wsV RX9 60 RX5 yX5_wrapped wsX5_wrapped) := goodIn_app (goodIn_of _ (by decide +kernel)) ggX9_step_X5_wrapped
set_option maxRecDepth 20000 in
theorem ggX9_step_X5_alone : GoodIn wsX9_step wsX5_alone := goodIn_r _ [58, 59, 46, 23, 47, 53, 29, 30, 31, 32, 66, 67, 68, 69, 70] (by decide +kernel) (by decide +kernel)
set_option maxRecDepth 20000 in
theorem gX9_step_X5_alone : GoodIn wsX9_step (wsV RX9 64 RX5 yX5_alone wsX5_alone) := goodIn_app (goodIn_of _ (by decide +kernel)) ggX9_step_X5_alone
set_option maxRecDepth 20000 in
theorem ggX9_step_X5_image : GoodIn wsX9_step wsX5_image := goodIn_r _ [40] (by decide +kernel) (by decide +kernel)
set_option maxRecDepth 20000 in
theorem gX9_step_X5_image : GoodIn wsX9_step (va_wsS RX9 67 yX5_image wsX5_image) := goodIn_app (goodIn_of _ (by decide +kernel)) ggX9_step_X5_image
theorem dX9_step_0 : decode cX9_step 0 = .ok (.iload_n 3, 1) := by decide +kernel
theorem dX9_step_1 : decode cX9_step 1 = .ok (.ifCond .lt 9, 3) := by decide +kernel
theorem dX9_step_4 : decode cX9_step 4 = .ok (.iload_n 3, 1) := by decide +kernel
theorem dX9_step_5 : decode cX9_step 5 = .ok (.bipush 24, 2) := by decide +kernel
theorem dX9_step_7 : decode cX9_step 7 = .ok (.if_icmp .lt 4, 3) := by decide +kernel
theorem dX9_step_10 : decode cX9_step 10 = .ok (.return_, 1) := by decide +kernel
theorem dX9_step_11 : decode cX9_step 11 = .ok (.aload_n 2, 1) := by decide +kernel
theorem dX9_step_12 : decode cX9_step 12 = .ok (.iload_n 3, 1) := by decide +kernel
theorem dX9_step_13 : decode cX9_step 13 = .ok (.invokevirtual 36, 3) := by decide +kernel
theorem dX9_step_16 : decode cX9_step 16 = .ok (.istore 4, 2) := by decide +kernel
theorem dX9_step_18 : decode cX9_step 18 = .ok (.aload_n 2, 1) := by decide +kernel
theorem dX9_step_19 : decode cX9_step 19 = .ok (.iload_n 3, 1) := by decide +kernel
theorem dX9_step_20 : decode cX9_step 20 = .ok (.invokevirtual 42, 3) := by decide +kernel
theorem dX9_step_23 : decode cX9_step 23 = .ok (.istore 5, 2) := by decide +kernel
theorem dX9_step_25 : decode cX9_step 25 = .ok (.iload 4, 2) := by decide +kernel
theorem dX9_step_27 : decode cX9_step 27 = .ok (.invokestatic 45, 3) := by decide +kernel
theorem dX9_step_30 : decode cX9_step 30 = .ok (.ifCond .eq 21, 3) := by decide +kernel
theorem dX9_step_33 : decode cX9_step 33 = .ok (.aload_n 0, 1) := by decide +kernel
theorem dX9_step_34 : decode cX9_step 34 = .ok (.iload_n 3, 1) := by decide +kernel
theorem dX9_step_35 : decode cX9_step 35 = .ok (.aload_n 1, 1) := by decide +kernel
theorem dX9_step_36 : decode cX9_step 36 = .ok (.iload 4, 2) := by decide +kernel
theorem dX9_step_38 : decode cX9_step 38 = .ok (.iconst 0, 1) := by decide +kernel
theorem dX9_step_39 : decode cX9_step 39 = .ok (.invokevirtual 49, 3) := by decide +kernel
theorem dX9_step_42 : decode cX9_step 42 = .ok (.iload_n 3, 1) := by decide +kernel
theorem dX9_step_43 : decode cX9_step 43 = .ok (.iconst 1, 1) := by decide +kernel
theorem dX9_step_44 : decode cX9_step 44 = .ok (.iadd, 1) := by decide +kernel
theorem dX9_step_45 : decode cX9_step 45 = .ok (.invokevirtual 53, 3) := by decide +kernel
theorem dX9_step_48 : decode cX9_step 48 = .ok (.goto 87, 3) := by decide +kernel
theorem dX9_step_51 : decode cX9_step 51 = .ok (.iload 4, 2) := by decide +kernel
theorem dX9_step_53 : decode cX9_step 53 = .ok (.invokestatic 57, 3) := by decide +kernel
theorem dX9_step_56 : decode cX9_step 56 = .ok (.ifCond .eq 44, 3) := by decide +kernel
theorem dX9_step_59 : decode cX9_step 59 = .ok (.iload 5, 2) := by decide +kernel
theorem dX9_step_61 : decode cX9_step 61 = .ok (.ifCond .lt 39, 3) := by decide +kernel
theorem dX9_step_64 : decode cX9_step 64 = .ok (.iload 5, 2) := by decide +kernel
theorem dX9_step_66 : decode cX9_step 66 = .ok (.iload_n 3, 1) := by decide +kernel
theorem dX9_step_67 : decode cX9_step 67 = .ok (.if_icmp .ge 33, 3) := by decide +kernel
theorem dX9_step_70 : decode cX9_step 70 = .ok (.aload_n 0, 1) := by decide +kernel
theorem dX9_step_71 : decode cX9_step 71 = .ok (.iload 5, 2) := by decide +kernel
theorem dX9_step_73 : decode cX9_step 73 = .ok (.aload_n 1, 1) := by decide +kernel
theorem dX9_step_74 : decode cX9_step 74 = .ok (.aload_n 2, 1) := by decide +kernel
theorem dX9_step_75 : decode cX9_step 75 = .ok (.iload 5, 2) := by decide +kernel
theorem dX9_step_77 : decode cX9_step 77 = .ok (.invokevirtual 36, 3) := by decide +kernel
theorem dX9_step_80 : decode cX9_step 80 = .ok (.iload 4, 2) := by decide +kernel
theorem dX9_step_82 : decode cX9_step 82 = .ok (.aload_n 0, 1) := by decide +kernel
theorem dX9_step_83 : decode cX9_step 83 = .ok (.getfield 15, 3) := by decide +kernel
theorem dX9_step_86 : decode cX9_step 86 = .ok (.iload_n 3, 1) := by decide +kernel
theorem dX9_step_87 : decode cX9_step 87 = .ok (.iaload, 1) := by decide +kernel
theorem dX9_step_88 : decode cX9_step 88 = .ok (.invokevirtual 60, 3) := by decide +kernel
theorem dX9_step_91 : decode cX9_step 91 = .ok (.iload_n 3, 1) := by decide +kernel
theorem dX9_step_92 : decode cX9_step 92 = .ok (.iconst 1, 1) := by decide +kernel
theorem dX9_step_93 : decode cX9_step 93 = .ok (.iadd, 1) := by decide +kernel
theorem dX9_step_94 : decode cX9_step 94 = .ok (.invokevirtual 53, 3) := by decide +kernel
theorem dX9_step_97 : decode cX9_step 97 = .ok (.goto 38, 3) := by decide +kernel
theorem dX9_step_100 : decode cX9_step 100 = .ok (.aload_n 0, 1) := by decide +kernel
theorem dX9_step_101 : decode cX9_step 101 = .ok (.getfield 9, 3) := by decide +kernel
theorem dX9_step_104 : decode cX9_step 104 = .ok (.iload_n 3, 1) := by decide +kernel
theorem dX9_step_105 : decode cX9_step 105 = .ok (.iconst 1, 1) := by decide +kernel
theorem dX9_step_106 : decode cX9_step 106 = .ok (.iadd, 1) := by decide +kernel
theorem dX9_step_107 : decode cX9_step 107 = .ok (.aload_n 0, 1) := by decide +kernel
theorem dX9_step_108 : decode cX9_step 108 = .ok (.getfield 9, 3) := by decide +kernel
theorem dX9_step_111 : decode cX9_step 111 = .ok (.iload_n 3, 1) := by decide +kernel
theorem dX9_step_112 : decode cX9_step 112 = .ok (.iaload, 1) := by decide +kernel
theorem dX9_step_113 : decode cX9_step 113 = .ok (.aload_n 1, 1) := by decide +kernel
theorem dX9_step_114 : decode cX9_step 114 = .ok (.iload 4, 2) := by decide +kernel
theorem dX9_step_116 : decode cX9_step 116 = .ok (.invokevirtual 64, 3) := by decide +kernel
theorem dX9_step_119 : decode cX9_step 119 = .ok (.invokestatic 67, 3) := by decide +kernel
theorem dX9_step_122 : decode cX9_step 122 = .ok (.iastore, 1) := by decide +kernel
theorem dX9_step_123 : decode cX9_step 123 = .ok (.aload_n 0, 1) := by decide +kernel
theorem dX9_step_124 : decode cX9_step 124 = .ok (.getfield 15, 3) := by decide +kernel
theorem dX9_step_127 : decode cX9_step 127 = .ok (.iload_n 3, 1) := by decide +kernel
theorem dX9_step_128 : decode cX9_step 128 = .ok (.iconst 1, 1) := by decide +kernel
theorem dX9_step_129 : decode cX9_step 129 = .ok (.iadd, 1) := by decide +kernel
theorem dX9_step_130 : decode cX9_step 130 = .ok (.aload_n 0, 1) := by decide +kernel
theorem dX9_step_131 : decode cX9_step 131 = .ok (.getfield 18, 3) := by decide +kernel
theorem dX9_step_134 : decode cX9_step 134 = .ok (.iastore, 1) := by decide +kernel
theorem dX9_step_135 : decode cX9_step 135 = .ok (.return_, 1) := by decide +kernel
set_option maxRecDepth 20000 in
theorem ggX9_goOn_X5_image : GoodIn wsX9_goOn wsX5_image := goodIn_r _ [6] (by decide +kernel) (by decide +kernel)
set_option maxRecDepth 20000 in
theorem gX9_goOn_X5_image : GoodIn wsX9_goOn (va_wsS RX9 67 yX5_image wsX5_image) := goodIn_app (goodIn_of _ (by decide +kernel)) ggX9_goOn_X5_image
set_option maxRecDepth 20000 in
theorem ggX9_goOn_X5_then : GoodIn wsX9_goOn wsX5_then := goodIn_r _ [9, 10, 4, 5, 6] (by decide +kernel) (by decide +kernel)
set_option maxRecDepth 20000 in
theorem gX9_goOn_X5_then : GoodIn wsX9_goOn (va_wsS RX9 70 yX5_then wsX5_then) := goodIn_app (goodIn_of _ (by decide +kernel)) ggX9_goOn_X5_then
theorem dX9_goOn_0 : decode cX9_goOn 0 = .ok (.aload_n 0, 1) := by decide +kernel
theorem dX9_goOn_1 : decode cX9_goOn 1 = .ok (.getfield 9, 3) := by decide +kernel
theorem dX9_goOn_4 : decode cX9_goOn 4 = .ok (.iload_n 3, 1) := by decide +kernel
theorem dX9_goOn_5 : decode cX9_goOn 5 = .ok (.aload_n 0, 1) := by decide +kernel
theorem dX9_goOn_6 : decode cX9_goOn 6 = .ok (.getfield 9, 3) := by decide +kernel
theorem dX9_goOn_9 : decode cX9_goOn 9 = .ok (.iload_n 1, 1) := by decide +kernel
theorem dX9_goOn_10 : decode cX9_goOn 10 = .ok (.iaload, 1) := by decide +kernel
theorem dX9_goOn_11 : decode cX9_goOn 11 = .ok (.iload_n 2, 1) := by decide +kernel
theorem dX9_goOn_12 : decode cX9_goOn 12 = .ok (.invokestatic 67, 3) := by decide +kernel
theorem dX9_goOn_15 : decode cX9_goOn 15 = .ok (.iastore, 1) := by decide +kernel
theorem dX9_goOn_16 : decode cX9_goOn 16 = .ok (.aload_n 0, 1) := by decide +kernel
theorem dX9_goOn_17 : decode cX9_goOn 17 = .ok (.getfield 15, 3) := by decide +kernel
theorem dX9_goOn_20 : decode cX9_goOn 20 = .ok (.iload_n 3, 1) := by decide +kernel
theorem dX9_goOn_21 : decode cX9_goOn 21 = .ok (.aload_n 0, 1) := by decide +kernel
theorem dX9_goOn_22 : decode cX9_goOn 22 = .ok (.getfield 15, 3) := by decide +kernel
theorem dX9_goOn_25 : decode cX9_goOn 25 = .ok (.iload_n 1, 1) := by decide +kernel
theorem dX9_goOn_26 : decode cX9_goOn 26 = .ok (.iaload, 1) := by decide +kernel
theorem dX9_goOn_27 : decode cX9_goOn 27 = .ok (.iload_n 2, 1) := by decide +kernel
theorem dX9_goOn_28 : decode cX9_goOn 28 = .ok (.invokestatic 70, 3) := by decide +kernel
theorem dX9_goOn_31 : decode cX9_goOn 31 = .ok (.iastore, 1) := by decide +kernel
theorem dX9_goOn_32 : decode cX9_goOn 32 = .ok (.return_, 1) := by decide +kernel
theorem dX10_init_0 : decode cX10_init 0 = .ok (.aload_n 0, 1) := by decide +kernel
theorem dX10_init_1 : decode cX10_init 1 = .ok (.invokespecial 3, 3) := by decide +kernel
theorem dX10_init_4 : decode cX10_init 4 = .ok (.aload_n 0, 1) := by decide +kernel
theorem dX10_init_5 : decode cX10_init 5 = .ok (.bipush 60, 2) := by decide +kernel
theorem dX10_init_7 : decode cX10_init 7 = .ok (.newarray .int, 2) := by decide +kernel
theorem dX10_init_9 : decode cX10_init 9 = .ok (.putfield 9, 3) := by decide +kernel
theorem dX10_init_12 : decode cX10_init 12 = .ok (.aload_n 0, 1) := by decide +kernel
theorem dX10_init_13 : decode cX10_init 13 = .ok (.bipush 60, 2) := by decide +kernel
theorem dX10_init_15 : decode cX10_init 15 = .ok (.newarray .int, 2) := by decide +kernel
theorem dX10_init_17 : decode cX10_init 17 = .ok (.putfield 15, 3) := by decide +kernel
theorem dX10_init_20 : decode cX10_init 20 = .ok (.aload_n 0, 1) := by decide +kernel
theorem dX10_init_21 : decode cX10_init 21 = .ok (.bipush 60, 2) := by decide +kernel
theorem dX10_init_23 : decode cX10_init 23 = .ok (.newarray .int, 2) := by decide +kernel
theorem dX10_init_25 : decode cX10_init 25 = .ok (.putfield 18, 3) := by decide +kernel
theorem dX10_init_28 : decode cX10_init 28 = .ok (.aload_n 0, 1) := by decide +kernel
theorem dX10_init_29 : decode cX10_init 29 = .ok (.sipush 3600, 3) := by decide +kernel
theorem dX10_init_32 : decode cX10_init 32 = .ok (.newarray .int, 2) := by decide +kernel
theorem dX10_init_34 : decode cX10_init 34 = .ok (.putfield 21, 3) := by decide +kernel
theorem dX10_init_37 : decode cX10_init 37 = .ok (.aload_n 0, 1) := by decide +kernel
theorem dX10_init_38 : decode cX10_init 38 = .ok (.sipush 240, 3) := by decide +kernel
theorem dX10_init_41 : decode cX10_init 41 = .ok (.newarray .int, 2) := by decide +kernel
theorem dX10_init_43 : decode cX10_init 43 = .ok (.putfield 24, 3) := by decide +kernel
theorem dX10_init_46 : decode cX10_init 46 = .ok (.aload_n 0, 1) := by decide +kernel
theorem dX10_init_47 : decode cX10_init 47 = .ok (.iconst 2, 1) := by decide +kernel
theorem dX10_init_48 : decode cX10_init 48 = .ok (.newarray .int, 2) := by decide +kernel
theorem dX10_init_50 : decode cX10_init 50 = .ok (.putfield 27, 3) := by decide +kernel
theorem dX10_init_53 : decode cX10_init 53 = .ok (.aload_n 0, 1) := by decide +kernel
theorem dX10_init_54 : decode cX10_init 54 = .ok (.sipush 256, 3) := by decide +kernel
theorem dX10_init_57 : decode cX10_init 57 = .ok (.newarray .int, 2) := by decide +kernel
theorem dX10_init_59 : decode cX10_init 59 = .ok (.putfield 30, 3) := by decide +kernel
theorem dX10_init_62 : decode cX10_init 62 = .ok (.aload_n 0, 1) := by decide +kernel
theorem dX10_init_63 : decode cX10_init 63 = .ok (.iconst 0, 1) := by decide +kernel
theorem dX10_init_64 : decode cX10_init 64 = .ok (.putfield 33, 3) := by decide +kernel
theorem dX10_init_67 : decode cX10_init 67 = .ok (.aload_n 0, 1) := by decide +kernel
theorem dX10_init_68 : decode cX10_init 68 = .ok (.iconst 0, 1) := by decide +kernel
theorem dX10_init_69 : decode cX10_init 69 = .ok (.putfield 37, 3) := by decide +kernel
theorem dX10_init_72 : decode cX10_init 72 = .ok (.aload_n 0, 1) := by decide +kernel
theorem dX10_init_73 : decode cX10_init 73 = .ok (.iconst 0, 1) := by decide +kernel
theorem dX10_init_74 : decode cX10_init 74 = .ok (.putfield 40, 3) := by decide +kernel
theorem dX10_init_77 : decode cX10_init 77 = .ok (.aload_n 0, 1) := by decide +kernel
theorem dX10_init_78 : decode cX10_init 78 = .ok (.aload_n 1, 1) := by decide +kernel
theorem dX10_init_79 : decode cX10_init 79 = .ok (.putfield 44, 3) := by decide +kernel
theorem dX10_init_82 : decode cX10_init 82 = .ok (.return_, 1) := by decide +kernel
theorem dX10_areSpent_0 : decode cX10_areSpent 0 = .ok (.aload_n 0, 1) := by decide +kernel
theorem dX10_areSpent_1 : decode cX10_areSpent 1 = .ok (.getfield 40, 3) := by decide +kernel
theorem dX10_areSpent_4 : decode cX10_areSpent 4 = .ok (.ireturn, 1) := by decide +kernel
theorem dX10_size_0 : decode cX10_size 0 = .ok (.aload_n 0, 1) := by decide +kernel
theorem dX10_size_1 : decode cX10_size 1 = .ok (.getfield 33, 3) := by decide +kernel
theorem dX10_size_4 : decode cX10_size 4 = .ok (.ireturn, 1) := by decide +kernel
theorem dX10_steps_0 : decode cX10_steps 0 = .ok (.aload_n 0, 1) := by decide +kernel
theorem dX10_steps_1 : decode cX10_steps 1 = .ok (.getfield 37, 3) := by decide +kernel
theorem dX10_steps_4 : decode cX10_steps 4 = .ok (.ireturn, 1) := by decide +kernel
theorem dX10_pairAt_0 : decode cX10_pairAt 0 = .ok (.iload_n 1, 1) := by decide +kernel
theorem dX10_pairAt_1 : decode cX10_pairAt 1 = .ok (.ifCond .lt 20, 3) := by decide +kernel
theorem dX10_pairAt_4 : decode cX10_pairAt 4 = .ok (.iload_n 1, 1) := by decide +kernel
theorem dX10_pairAt_5 : decode cX10_pairAt 5 = .ok (.aload_n 0, 1) := by decide +kernel
theorem dX10_pairAt_6 : decode cX10_pairAt 6 = .ok (.getfield 33, 3) := by decide +kernel
theorem dX10_pairAt_9 : decode cX10_pairAt 9 = .ok (.if_icmp .ge 12, 3) := by decide +kernel
theorem dX10_pairAt_12 : decode cX10_pairAt 12 = .ok (.aload_n 0, 1) := by decide +kernel
theorem dX10_pairAt_13 : decode cX10_pairAt 13 = .ok (.getfield 9, 3) := by decide +kernel
theorem dX10_pairAt_16 : decode cX10_pairAt 16 = .ok (.iload_n 1, 1) := by decide +kernel
theorem dX10_pairAt_17 : decode cX10_pairAt 17 = .ok (.iaload, 1) := by decide +kernel
theorem dX10_pairAt_18 : decode cX10_pairAt 18 = .ok (.goto 4, 3) := by decide +kernel
theorem dX10_pairAt_21 : decode cX10_pairAt 21 = .ok (.iconst 0, 1) := by decide +kernel
theorem dX10_pairAt_22 : decode cX10_pairAt 22 = .ok (.ireturn, 1) := by decide +kernel
theorem dX10_wholeOfStep_0 : decode cX10_wholeOfStep 0 = .ok (.iload_n 1, 1) := by decide +kernel
theorem dX10_wholeOfStep_1 : decode cX10_wholeOfStep 1 = .ok (.ifCond .lt 20, 3) := by decide +kernel
theorem dX10_wholeOfStep_4 : decode cX10_wholeOfStep 4 = .ok (.iload_n 1, 1) := by decide +kernel
theorem dX10_wholeOfStep_5 : decode cX10_wholeOfStep 5 = .ok (.aload_n 0, 1) := by decide +kernel
theorem dX10_wholeOfStep_6 : decode cX10_wholeOfStep 6 = .ok (.getfield 37, 3) := by decide +kernel
theorem dX10_wholeOfStep_9 : decode cX10_wholeOfStep 9 = .ok (.if_icmp .ge 12, 3) := by decide +kernel
theorem dX10_wholeOfStep_12 : decode cX10_wholeOfStep 12 = .ok (.aload_n 0, 1) := by decide +kernel
theorem dX10_wholeOfStep_13 : decode cX10_wholeOfStep 13 = .ok (.getfield 18, 3) := by decide +kernel
theorem dX10_wholeOfStep_16 : decode cX10_wholeOfStep 16 = .ok (.iload_n 1, 1) := by decide +kernel
theorem dX10_wholeOfStep_17 : decode cX10_wholeOfStep 17 = .ok (.iaload, 1) := by decide +kernel
theorem dX10_wholeOfStep_18 : decode cX10_wholeOfStep 18 = .ok (.goto 4, 3) := by decide +kernel
theorem dX10_wholeOfStep_21 : decode cX10_wholeOfStep 21 = .ok (.iconst 0, 1) := by decide +kernel
theorem dX10_wholeOfStep_22 : decode cX10_wholeOfStep 22 = .ok (.ireturn, 1) := by decide +kernel
theorem dX10_after_0 : decode cX10_after 0 = .ok (.iload_n 1, 1) := by decide +kernel
theorem dX10_after_1 : decode cX10_after 1 = .ok (.ifCond .lt 27, 3) := by decide +kernel
theorem dX10_after_4 : decode cX10_after 4 = .ok (.iload_n 1, 1) := by decide +kernel
theorem dX10_after_5 : decode cX10_after 5 = .ok (.aload_n 0, 1) := by decide +kernel
theorem dX10_after_6 : decode cX10_after 6 = .ok (.getfield 33, 3) := by decide +kernel
theorem dX10_after_9 : decode cX10_after 9 = .ok (.if_icmp .ge 19, 3) := by decide +kernel
theorem dX10_after_12 : decode cX10_after 12 = .ok (.iload_n 2, 1) := by decide +kernel
theorem dX10_after_13 : decode cX10_after 13 = .ok (.ifCond .lt 15, 3) := by decide +kernel
theorem dX10_after_16 : decode cX10_after 16 = .ok (.iload_n 2, 1) := by decide +kernel
theorem dX10_after_17 : decode cX10_after 17 = .ok (.aload_n 0, 1) := by decide +kernel
theorem dX10_after_18 : decode cX10_after 18 = .ok (.getfield 37, 3) := by decide +kernel
theorem dX10_after_21 : decode cX10_after 21 = .ok (.if_icmp .ge 7, 3) := by decide +kernel
theorem dX10_after_24 : decode cX10_after 24 = .ok (.iconst 1, 1) := by decide +kernel
theorem dX10_after_25 : decode cX10_after 25 = .ok (.goto 4, 3) := by decide +kernel
theorem dX10_after_28 : decode cX10_after 28 = .ok (.iconst 0, 1) := by decide +kernel
theorem dX10_after_29 : decode cX10_after 29 = .ok (.istore_n 3, 1) := by decide +kernel
theorem dX10_after_30 : decode cX10_after 30 = .ok (.iload_n 3, 1) := by decide +kernel
theorem dX10_after_31 : decode cX10_after 31 = .ok (.ifCond .eq 17, 3) := by decide +kernel
theorem dX10_after_34 : decode cX10_after 34 = .ok (.aload_n 0, 1) := by decide +kernel
theorem dX10_after_35 : decode cX10_after 35 = .ok (.getfield 21, 3) := by decide +kernel
theorem dX10_after_38 : decode cX10_after 38 = .ok (.iload_n 1, 1) := by decide +kernel
theorem dX10_after_39 : decode cX10_after 39 = .ok (.bipush 60, 2) := by decide +kernel
theorem dX10_after_41 : decode cX10_after 41 = .ok (.imul, 1) := by decide +kernel
theorem dX10_after_42 : decode cX10_after 42 = .ok (.iload_n 2, 1) := by decide +kernel
theorem dX10_after_43 : decode cX10_after 43 = .ok (.iadd, 1) := by decide +kernel
theorem dX10_after_44 : decode cX10_after 44 = .ok (.iaload, 1) := by decide +kernel
theorem dX10_after_45 : decode cX10_after 45 = .ok (.goto 4, 3) := by decide +kernel
theorem dX10_after_48 : decode cX10_after 48 = .ok (.iconst 0, 1) := by decide +kernel
theorem dX10_after_49 : decode cX10_after 49 = .ok (.ireturn, 1) := by decide +kernel
theorem dX10_stepAround_0 : decode cX10_stepAround 0 = .ok (.iload_n 1, 1) := by decide +kernel
theorem dX10_stepAround_1 : decode cX10_stepAround 1 = .ok (.ifCond .lt 33, 3) := by decide +kernel
theorem dX10_stepAround_4 : decode cX10_stepAround 4 = .ok (.iload_n 1, 1) := by decide +kernel
theorem dX10_stepAround_5 : decode cX10_stepAround 5 = .ok (.aload_n 0, 1) := by decide +kernel
theorem dX10_stepAround_6 : decode cX10_stepAround 6 = .ok (.getfield 33, 3) := by decide +kernel
theorem dX10_stepAround_9 : decode cX10_stepAround 9 = .ok (.if_icmp .ge 25, 3) := by decide +kernel
theorem dX10_stepAround_12 : decode cX10_stepAround 12 = .ok (.iload_n 2, 1) := by decide +kernel
theorem dX10_stepAround_13 : decode cX10_stepAround 13 = .ok (.ifCond .lt 21, 3) := by decide +kernel
theorem dX10_stepAround_16 : decode cX10_stepAround 16 = .ok (.iload_n 2, 1) := by decide +kernel
theorem dX10_stepAround_17 : decode cX10_stepAround 17 = .ok (.iconst 4, 1) := by decide +kernel
theorem dX10_stepAround_18 : decode cX10_stepAround 18 = .ok (.if_icmp .ge 16, 3) := by decide +kernel
theorem dX10_stepAround_21 : decode cX10_stepAround 21 = .ok (.aload_n 0, 1) := by decide +kernel
theorem dX10_stepAround_22 : decode cX10_stepAround 22 = .ok (.getfield 24, 3) := by decide +kernel
theorem dX10_stepAround_25 : decode cX10_stepAround 25 = .ok (.iconst 4, 1) := by decide +kernel
theorem dX10_stepAround_26 : decode cX10_stepAround 26 = .ok (.iload_n 1, 1) := by decide +kernel
theorem dX10_stepAround_27 : decode cX10_stepAround 27 = .ok (.imul, 1) := by decide +kernel
theorem dX10_stepAround_28 : decode cX10_stepAround 28 = .ok (.iload_n 2, 1) := by decide +kernel
theorem dX10_stepAround_29 : decode cX10_stepAround 29 = .ok (.iadd, 1) := by decide +kernel
theorem dX10_stepAround_30 : decode cX10_stepAround 30 = .ok (.iaload, 1) := by decide +kernel
theorem dX10_stepAround_31 : decode cX10_stepAround 31 = .ok (.goto 4, 3) := by decide +kernel
theorem dX10_stepAround_34 : decode cX10_stepAround 34 = .ok (.iconst 0, 1) := by decide +kernel
theorem dX10_stepAround_35 : decode cX10_stepAround 35 = .ok (.ireturn, 1) := by decide +kernel
set_option maxRecDepth 20000 in
theorem ggX10_stepOfPlain_X5_isPlain : GoodIn wsX10_stepOfPlain wsX5_isPlain := goodIn_r _ [5] (by decide +kernel) (by decide +kernel)
set_option maxRecDepth 20000 in
theorem gX10_stepOfPlain_X5_isPlain : GoodIn wsX10_stepOfPlain (va_wsS RX10 48 yX5_isPlain wsX5_isPlain) := goodIn_app (goodIn_of _ (by decide +kernel)) ggX10_stepOfPlain_X5_isPlain
theorem dX10_stepOfPlain_0 : decode cX10_stepOfPlain 0 = .ok (.iload_n 1, 1) := by decide +kernel
theorem dX10_stepOfPlain_1 : decode cX10_stepOfPlain 1 = .ok (.invokestatic 48, 3) := by decide +kernel
theorem dX10_stepOfPlain_4 : decode cX10_stepOfPlain 4 = .ok (.ifCond .eq 14, 3) := by decide +kernel
theorem dX10_stepOfPlain_7 : decode cX10_stepOfPlain 7 = .ok (.aload_n 0, 1) := by decide +kernel
theorem dX10_stepOfPlain_8 : decode cX10_stepOfPlain 8 = .ok (.getfield 27, 3) := by decide +kernel
theorem dX10_stepOfPlain_11 : decode cX10_stepOfPlain 11 = .ok (.iload_n 1, 1) := by decide +kernel
theorem dX10_stepOfPlain_12 : decode cX10_stepOfPlain 12 = .ok (.iconst 2, 1) := by decide +kernel
theorem dX10_stepOfPlain_13 : decode cX10_stepOfPlain 13 = .ok (.isub, 1) := by decide +kernel
theorem dX10_stepOfPlain_14 : decode cX10_stepOfPlain 14 = .ok (.iaload, 1) := by decide +kernel
theorem dX10_stepOfPlain_15 : decode cX10_stepOfPlain 15 = .ok (.goto 4, 3) := by decide +kernel
theorem dX10_stepOfPlain_18 : decode cX10_stepOfPlain 18 = .ok (.iconst 0, 1) := by decide +kernel
theorem dX10_stepOfPlain_19 : decode cX10_stepOfPlain 19 = .ok (.ireturn, 1) := by decide +kernel
set_option maxRecDepth 20000 in
theorem ggX10_build_X1_identity : GoodIn wsX10_build wsX1_identity := goodIn_r _ [13, 14, 15, 16, 17, 18, 19, 20, 21, 22, 23, 24, 25, 26, 27, 12, 28, 92, 93, 94, 95, 96, 97, 98, 99] (by decide +kernel) (by decide +kernel)
set_option maxRecDepth 20000 in
theorem gX10_build_X1_identity : GoodIn wsX10_build (wsV RX10 54 RX1 yX1_identity wsX1_identity) := goodIn_app (goodIn_of _ (by decide +kernel)) ggX10_build_X1_identity
set_option maxRecDepth 20000 in
theorem ggX10_build_X10_numberOf : GoodIn wsX10_build wsX10_numberOf := goodIn_r _ [33, 4, 1, 3, 7, 34, 35, 36, 37, 32, 38, 39, 81, 82, 83, 84, 85, 86, 87, 88, 89, 90, 91] (by decide +kernel) (by decide +kernel)
set_option maxRecDepth 20000 in
theorem gX10_build_X10_numberOf : GoodIn wsX10_build (wsV RX10 60 RX10 yX10_numberOf wsX10_numberOf) := goodIn_app (goodIn_of _ (by decide +kernel)) ggX10_build_X10_numberOf
set_option maxRecDepth 20000 in
theorem ggX10_build_X1_plain : GoodIn wsX10_build wsX1_plain := goodIn_r _ [43, 14, 16, 44, 10, 11, 12, 13, 15, 17, 18, 19, 20, 21, 22, 23, 24, 25, 26, 27, 28, 45, 46, 47, 48, 49, 50, 51, 52, 53, 54, 55, 56, 57, 58, 92, 93, 94, 95, 96, 97, 98, 99] (by decide +kernel) (by decide +kernel)
set_option maxRecDepth 20000 in
theorem gX10_build_X1_plain : GoodIn wsX10_build (wsV RX10 64 RX1 yX1_plain wsX1_plain) := goodIn_app (goodIn_of _ (by decide +kernel)) ggX10_build_X1_plain
set_option maxRecDepth 20000 in
theorem ggX10_build_X10_stepFor : GoodIn wsX10_build wsX10_stepFor := goodIn_r _ [62, 3, 34, 2, 63, 29, 30, 31, 32, 33, 4, 1, 7, 35, 36, 37, 38, 39, 81, 82, 83, 84, 85, 86, 87, 88, 89, 90, 91] (by decide +kernel) (by decide +kernel)
set_option maxRecDepth 20000 in
theorem gX10_build_X10_stepFor : GoodIn wsX10_build (wsV RX10 66 RX10 yX10_stepFor wsX10_stepFor) := goodIn_app (goodIn_of _ (by decide +kernel)) ggX10_build_X10_stepFor
set_option maxRecDepth 20000 in
theorem ggX10_build_X1_wrapped : GoodIn wsX10_build wsX1_wrapped := goodIn_r _ [67, 14, 16, 68, 69, 70, 20, 71, 72, 73, 46, 47, 48, 49, 74, 54, 55, 56, 57, 58, 26, 27, 12, 28, 92, 93, 94, 95, 96, 97, 98, 99] (by decide +kernel) (by decide +kernel)
set_option maxRecDepth 20000 in
theorem gX10_build_X1_wrapped : GoodIn wsX10_build (wsV RX10 69 RX1 yX1_wrapped wsX1_wrapped) := goodIn_app (goodIn_of _ (by decide +kernel)) ggX10_build_X1_wrapped
set_option maxRecDepth 20000 in
theorem ggX10_build_X10_link : GoodIn wsX10_build wsX10_link := goodIn_r _ [78, 2, 3, 7, 63, 79, 80, 51, 12, 52, 53, 54, 20, 55, 56, 57, 58, 26, 27, 28, 29, 30, 31, 32, 33, 4, 1, 34, 35, 36, 37, 38, 39, 81, 82, 83, 84, 85, 86, 87, 88, 89, 90, 91] (by decide +kernel) (by decide +kernel)
set_option maxRecDepth 20000 in
theorem gX10_build_X10_link : GoodIn wsX10_build (wsV RX10 73 RX10 yX10_link wsX10_link) := goodIn_app (goodIn_of _ (by decide +kernel)) ggX10_build_X10_link
theorem dX10_build_0 : decode cX10_build 0 = .ok (.aload_n 0, 1) := by decide +kernel
theorem dX10_build_1 : decode cX10_build 1 = .ok (.iconst 0, 1) := by decide +kernel
theorem dX10_build_2 : decode cX10_build 2 = .ok (.putfield 33, 3) := by decide +kernel
theorem dX10_build_5 : decode cX10_build 5 = .ok (.aload_n 0, 1) := by decide +kernel
theorem dX10_build_6 : decode cX10_build 6 = .ok (.iconst 0, 1) := by decide +kernel
theorem dX10_build_7 : decode cX10_build 7 = .ok (.putfield 37, 3) := by decide +kernel
theorem dX10_build_10 : decode cX10_build 10 = .ok (.aload_n 0, 1) := by decide +kernel
theorem dX10_build_11 : decode cX10_build 11 = .ok (.iconst 0, 1) := by decide +kernel
theorem dX10_build_12 : decode cX10_build 12 = .ok (.putfield 40, 3) := by decide +kernel
theorem dX10_build_15 : decode cX10_build 15 = .ok (.iconst 0, 1) := by decide +kernel
theorem dX10_build_16 : decode cX10_build 16 = .ok (.istore_n 1, 1) := by decide +kernel
theorem dX10_build_17 : decode cX10_build 17 = .ok (.iload_n 1, 1) := by decide +kernel
theorem dX10_build_18 : decode cX10_build 18 = .ok (.sipush 256, 3) := by decide +kernel
theorem dX10_build_21 : decode cX10_build 21 = .ok (.if_icmp .ge 16, 3) := by decide +kernel
theorem dX10_build_24 : decode cX10_build 24 = .ok (.aload_n 0, 1) := by decide +kernel
theorem dX10_build_25 : decode cX10_build 25 = .ok (.getfield 30, 3) := by decide +kernel
theorem dX10_build_28 : decode cX10_build 28 = .ok (.iload_n 1, 1) := by decide +kernel
theorem dX10_build_29 : decode cX10_build 29 = .ok (.iconst 0, 1) := by decide +kernel
theorem dX10_build_30 : decode cX10_build 30 = .ok (.iastore, 1) := by decide +kernel
theorem dX10_build_31 : decode cX10_build 31 = .ok (.iinc 1 1, 3) := by decide +kernel
theorem dX10_build_34 : decode cX10_build 34 = .ok (.goto (-17), 3) := by decide +kernel
theorem dX10_build_37 : decode cX10_build 37 = .ok (.aload_n 0, 1) := by decide +kernel
theorem dX10_build_38 : decode cX10_build 38 = .ok (.aload_n 0, 1) := by decide +kernel
theorem dX10_build_39 : decode cX10_build 39 = .ok (.getfield 44, 3) := by decide +kernel
theorem dX10_build_42 : decode cX10_build 42 = .ok (.invokevirtual 54, 3) := by decide +kernel
theorem dX10_build_45 : decode cX10_build 45 = .ok (.invokevirtual 60, 3) := by decide +kernel
theorem dX10_build_48 : decode cX10_build 48 = .ok (.pop, 1) := by decide +kernel
theorem dX10_build_49 : decode cX10_build 49 = .ok (.aload_n 0, 1) := by decide +kernel
theorem dX10_build_50 : decode cX10_build 50 = .ok (.getfield 27, 3) := by decide +kernel
theorem dX10_build_53 : decode cX10_build 53 = .ok (.iconst 0, 1) := by decide +kernel
theorem dX10_build_54 : decode cX10_build 54 = .ok (.aload_n 0, 1) := by decide +kernel
theorem dX10_build_55 : decode cX10_build 55 = .ok (.aload_n 0, 1) := by decide +kernel
theorem dX10_build_56 : decode cX10_build 56 = .ok (.getfield 44, 3) := by decide +kernel
theorem dX10_build_59 : decode cX10_build 59 = .ok (.iconst 2, 1) := by decide +kernel
theorem dX10_build_60 : decode cX10_build 60 = .ok (.invokevirtual 64, 3) := by decide +kernel
theorem dX10_build_63 : decode cX10_build 63 = .ok (.invokevirtual 66, 3) := by decide +kernel
theorem dX10_build_66 : decode cX10_build 66 = .ok (.iastore, 1) := by decide +kernel
theorem dX10_build_67 : decode cX10_build 67 = .ok (.aload_n 0, 1) := by decide +kernel
theorem dX10_build_68 : decode cX10_build 68 = .ok (.getfield 27, 3) := by decide +kernel
theorem dX10_build_71 : decode cX10_build 71 = .ok (.iconst 1, 1) := by decide +kernel
theorem dX10_build_72 : decode cX10_build 72 = .ok (.aload_n 0, 1) := by decide +kernel
theorem dX10_build_73 : decode cX10_build 73 = .ok (.aload_n 0, 1) := by decide +kernel
theorem dX10_build_74 : decode cX10_build 74 = .ok (.getfield 44, 3) := by decide +kernel
theorem dX10_build_77 : decode cX10_build 77 = .ok (.iconst 3, 1) := by decide +kernel
theorem dX10_build_78 : decode cX10_build 78 = .ok (.invokevirtual 64, 3) := by decide +kernel
theorem dX10_build_81 : decode cX10_build 81 = .ok (.invokevirtual 66, 3) := by decide +kernel
theorem dX10_build_84 : decode cX10_build 84 = .ok (.iastore, 1) := by decide +kernel
theorem dX10_build_85 : decode cX10_build 85 = .ok (.iconst 0, 1) := by decide +kernel
theorem dX10_build_86 : decode cX10_build 86 = .ok (.istore_n 1, 1) := by decide +kernel
theorem dX10_build_87 : decode cX10_build 87 = .ok (.iload_n 1, 1) := by decide +kernel
theorem dX10_build_88 : decode cX10_build 88 = .ok (.aload_n 0, 1) := by decide +kernel
theorem dX10_build_89 : decode cX10_build 89 = .ok (.getfield 33, 3) := by decide +kernel
theorem dX10_build_92 : decode cX10_build 92 = .ok (.if_icmp .ge 100, 3) := by decide +kernel
theorem dX10_build_95 : decode cX10_build 95 = .ok (.aload_n 0, 1) := by decide +kernel
theorem dX10_build_96 : decode cX10_build 96 = .ok (.getfield 40, 3) := by decide +kernel
theorem dX10_build_99 : decode cX10_build 99 = .ok (.ifCond .ne 93, 3) := by decide +kernel
theorem dX10_build_102 : decode cX10_build 102 = .ok (.aload_n 0, 1) := by decide +kernel
theorem dX10_build_103 : decode cX10_build 103 = .ok (.getfield 37, 3) := by decide +kernel
theorem dX10_build_106 : decode cX10_build 106 = .ok (.istore_n 2, 1) := by decide +kernel
theorem dX10_build_107 : decode cX10_build 107 = .ok (.iconst 0, 1) := by decide +kernel
theorem dX10_build_108 : decode cX10_build 108 = .ok (.istore_n 3, 1) := by decide +kernel
theorem dX10_build_109 : decode cX10_build 109 = .ok (.iload_n 3, 1) := by decide +kernel
theorem dX10_build_110 : decode cX10_build 110 = .ok (.iconst 4, 1) := by decide +kernel
theorem dX10_build_111 : decode cX10_build 111 = .ok (.if_icmp .ge 50, 3) := by decide +kernel
theorem dX10_build_114 : decode cX10_build 114 = .ok (.aload_n 0, 1) := by decide +kernel
theorem dX10_build_115 : decode cX10_build 115 = .ok (.getfield 44, 3) := by decide +kernel
theorem dX10_build_118 : decode cX10_build 118 = .ok (.iconst 0, 1) := by decide +kernel
theorem dX10_build_119 : decode cX10_build 119 = .ok (.iload_n 3, 1) := by decide +kernel
theorem dX10_build_120 : decode cX10_build 120 = .ok (.iconst 1, 1) := by decide +kernel
theorem dX10_build_121 : decode cX10_build 121 = .ok (.ishr, 1) := by decide +kernel
theorem dX10_build_122 : decode cX10_build 122 = .ok (.iadd, 1) := by decide +kernel
theorem dX10_build_123 : decode cX10_build 123 = .ok (.iconst 4, 1) := by decide +kernel
theorem dX10_build_124 : decode cX10_build 124 = .ok (.iload_n 3, 1) := by decide +kernel
theorem dX10_build_125 : decode cX10_build 125 = .ok (.iconst 1, 1) := by decide +kernel
theorem dX10_build_126 : decode cX10_build 126 = .ok (.iand, 1) := by decide +kernel
theorem dX10_build_127 : decode cX10_build 127 = .ok (.iadd, 1) := by decide +kernel
theorem dX10_build_128 : decode cX10_build 128 = .ok (.aload_n 0, 1) := by decide +kernel
theorem dX10_build_129 : decode cX10_build 129 = .ok (.getfield 9, 3) := by decide +kernel
theorem dX10_build_132 : decode cX10_build 132 = .ok (.iload_n 1, 1) := by decide +kernel
theorem dX10_build_133 : decode cX10_build 133 = .ok (.iaload, 1) := by decide +kernel
theorem dX10_build_134 : decode cX10_build 134 = .ok (.invokevirtual 69, 3) := by decide +kernel
theorem dX10_build_137 : decode cX10_build 137 = .ok (.istore 4, 2) := by decide +kernel
theorem dX10_build_139 : decode cX10_build 139 = .ok (.aload_n 0, 1) := by decide +kernel
theorem dX10_build_140 : decode cX10_build 140 = .ok (.getfield 24, 3) := by decide +kernel
theorem dX10_build_143 : decode cX10_build 143 = .ok (.iconst 4, 1) := by decide +kernel
theorem dX10_build_144 : decode cX10_build 144 = .ok (.iload_n 1, 1) := by decide +kernel
theorem dX10_build_145 : decode cX10_build 145 = .ok (.imul, 1) := by decide +kernel
theorem dX10_build_146 : decode cX10_build 146 = .ok (.iload_n 3, 1) := by decide +kernel
theorem dX10_build_147 : decode cX10_build 147 = .ok (.iadd, 1) := by decide +kernel
theorem dX10_build_148 : decode cX10_build 148 = .ok (.aload_n 0, 1) := by decide +kernel
theorem dX10_build_149 : decode cX10_build 149 = .ok (.iload 4, 2) := by decide +kernel
theorem dX10_build_151 : decode cX10_build 151 = .ok (.invokevirtual 66, 3) := by decide +kernel
theorem dX10_build_154 : decode cX10_build 154 = .ok (.iastore, 1) := by decide +kernel
theorem dX10_build_155 : decode cX10_build 155 = .ok (.iinc 3 1, 3) := by decide +kernel
theorem dX10_build_158 : decode cX10_build 158 = .ok (.goto (-49), 3) := by decide +kernel
theorem dX10_build_161 : decode cX10_build 161 = .ok (.iconst 0, 1) := by decide +kernel
theorem dX10_build_162 : decode cX10_build 162 = .ok (.istore_n 3, 1) := by decide +kernel
theorem dX10_build_163 : decode cX10_build 163 = .ok (.iload_n 3, 1) := by decide +kernel
theorem dX10_build_164 : decode cX10_build 164 = .ok (.iload_n 1, 1) := by decide +kernel
theorem dX10_build_165 : decode cX10_build 165 = .ok (.if_icmp .ge 15, 3) := by decide +kernel
theorem dX10_build_168 : decode cX10_build 168 = .ok (.aload_n 0, 1) := by decide +kernel
theorem dX10_build_169 : decode cX10_build 169 = .ok (.iload_n 3, 1) := by decide +kernel
theorem dX10_build_170 : decode cX10_build 170 = .ok (.iload_n 2, 1) := by decide +kernel
theorem dX10_build_171 : decode cX10_build 171 = .ok (.invokevirtual 73, 3) := by decide +kernel
theorem dX10_build_174 : decode cX10_build 174 = .ok (.iinc 3 1, 3) := by decide +kernel
theorem dX10_build_177 : decode cX10_build 177 = .ok (.goto (-14), 3) := by decide +kernel
theorem dX10_build_180 : decode cX10_build 180 = .ok (.aload_n 0, 1) := by decide +kernel
theorem dX10_build_181 : decode cX10_build 181 = .ok (.iload_n 1, 1) := by decide +kernel
theorem dX10_build_182 : decode cX10_build 182 = .ok (.iconst 0, 1) := by decide +kernel
theorem dX10_build_183 : decode cX10_build 183 = .ok (.invokevirtual 73, 3) := by decide +kernel
theorem dX10_build_186 : decode cX10_build 186 = .ok (.iinc 1 1, 3) := by decide +kernel
theorem dX10_build_189 : decode cX10_build 189 = .ok (.goto (-102), 3) := by decide +kernel
theorem dX10_build_192 : decode cX10_build 192 = .ok (.return_, 1) := by decide +kernel
set_option maxRecDepth 20000 in
theorem ggX10_reached_X10_followers : GoodIn wsX10_reached wsX10_followers := goodIn_r _ [6, 7, 8, 9, 10, 5, 11, 1, 12, 13, 14, 15, 16, 17, 18, 19, 20, 21, 22, 23] (by decide +kernel) (by decide +kernel)
set_option maxRecDepth 20000 in
theorem gX10_reached_X10_followers : GoodIn wsX10_reached (wsV RX10 77 RX10 yX10_followers wsX10_followers) := goodIn_app (goodIn_of _ (by decide +kernel)) ggX10_reached_X10_followers
theorem dX10_reached_0 : decode cX10_reached 0 = .ok (.lload_n 1, 1) := by decide +kernel
theorem dX10_reached_1 : decode cX10_reached 1 = .ok (.lstore_n 3, 1) := by decide +kernel
theorem dX10_reached_2 : decode cX10_reached 2 = .ok (.iconst 0, 1) := by decide +kernel
theorem dX10_reached_3 : decode cX10_reached 3 = .ok (.istore 5, 2) := by decide +kernel
theorem dX10_reached_5 : decode cX10_reached 5 = .ok (.iload 5, 2) := by decide +kernel
theorem dX10_reached_7 : decode cX10_reached 7 = .ok (.bipush 60, 2) := by decide +kernel
theorem dX10_reached_9 : decode cX10_reached 9 = .ok (.if_icmp .ge 64, 3) := by decide +kernel
theorem dX10_reached_12 : decode cX10_reached 12 = .ok (.lload_n 3, 1) := by decide +kernel
theorem dX10_reached_13 : decode cX10_reached 13 = .ok (.lstore 6, 2) := by decide +kernel
theorem dX10_reached_15 : decode cX10_reached 15 = .ok (.iconst 0, 1) := by decide +kernel
theorem dX10_reached_16 : decode cX10_reached 16 = .ok (.istore 8, 2) := by decide +kernel
theorem dX10_reached_18 : decode cX10_reached 18 = .ok (.iload 8, 2) := by decide +kernel
theorem dX10_reached_20 : decode cX10_reached 20 = .ok (.aload_n 0, 1) := by decide +kernel
theorem dX10_reached_21 : decode cX10_reached 21 = .ok (.getfield 33, 3) := by decide +kernel
theorem dX10_reached_24 : decode cX10_reached 24 = .ok (.if_icmp .ge 31, 3) := by decide +kernel
theorem dX10_reached_27 : decode cX10_reached 27 = .ok (.lload_n 3, 1) := by decide +kernel
theorem dX10_reached_28 : decode cX10_reached 28 = .ok (.iload 8, 2) := by decide +kernel
theorem dX10_reached_30 : decode cX10_reached 30 = .ok (.lshr, 1) := by decide +kernel
theorem dX10_reached_31 : decode cX10_reached 31 = .ok (.lconst 1, 1) := by decide +kernel
theorem dX10_reached_32 : decode cX10_reached 32 = .ok (.land, 1) := by decide +kernel
theorem dX10_reached_33 : decode cX10_reached 33 = .ok (.lconst 0, 1) := by decide +kernel
theorem dX10_reached_34 : decode cX10_reached 34 = .ok (.lcmp, 1) := by decide +kernel
theorem dX10_reached_35 : decode cX10_reached 35 = .ok (.ifCond .eq 14, 3) := by decide +kernel
theorem dX10_reached_38 : decode cX10_reached 38 = .ok (.lload 6, 2) := by decide +kernel
theorem dX10_reached_40 : decode cX10_reached 40 = .ok (.aload_n 0, 1) := by decide +kernel
theorem dX10_reached_41 : decode cX10_reached 41 = .ok (.iload 8, 2) := by decide +kernel
theorem dX10_reached_43 : decode cX10_reached 43 = .ok (.invokevirtual 77, 3) := by decide +kernel
theorem dX10_reached_46 : decode cX10_reached 46 = .ok (.lor, 1) := by decide +kernel
theorem dX10_reached_47 : decode cX10_reached 47 = .ok (.lstore 6, 2) := by decide +kernel
theorem dX10_reached_49 : decode cX10_reached 49 = .ok (.iinc 8 1, 3) := by decide +kernel
theorem dX10_reached_52 : decode cX10_reached 52 = .ok (.goto (-34), 3) := by decide +kernel
theorem dX10_reached_55 : decode cX10_reached 55 = .ok (.lload 6, 2) := by decide +kernel
theorem dX10_reached_57 : decode cX10_reached 57 = .ok (.lload_n 3, 1) := by decide +kernel
theorem dX10_reached_58 : decode cX10_reached 58 = .ok (.lcmp, 1) := by decide +kernel
theorem dX10_reached_59 : decode cX10_reached 59 = .ok (.ifCond .ne 5, 3) := by decide +kernel
theorem dX10_reached_62 : decode cX10_reached 62 = .ok (.lload_n 3, 1) := by decide +kernel
theorem dX10_reached_63 : decode cX10_reached 63 = .ok (.lreturn, 1) := by decide +kernel
theorem dX10_reached_64 : decode cX10_reached 64 = .ok (.lload 6, 2) := by decide +kernel
theorem dX10_reached_66 : decode cX10_reached 66 = .ok (.lstore_n 3, 1) := by decide +kernel
theorem dX10_reached_67 : decode cX10_reached 67 = .ok (.iinc 5 1, 3) := by decide +kernel
theorem dX10_reached_70 : decode cX10_reached 70 = .ok (.goto (-65), 3) := by decide +kernel
theorem dX10_reached_73 : decode cX10_reached 73 = .ok (.lload_n 3, 1) := by decide +kernel
theorem dX10_reached_74 : decode cX10_reached 74 = .ok (.lreturn, 1) := by decide +kernel
set_option maxRecDepth 20000 in
theorem ggX10_find_X10_slotOf : GoodIn wsX10_find wsX10_slotOf := goodIn_r _ [6, 7, 1, 8, 9, 10, 11, 12, 13, 14, 15, 16, 17, 18, 19] (by decide +kernel) (by decide +kernel)
set_option maxRecDepth 20000 in
theorem gX10_find_X10_slotOf : GoodIn wsX10_find (wsV RX10 81 RX10 yX10_slotOf wsX10_slotOf) := goodIn_app (goodIn_of _ (by decide +kernel)) ggX10_find_X10_slotOf
theorem dX10_find_0 : decode cX10_find 0 = .ok (.aload_n 0, 1) := by decide +kernel
theorem dX10_find_1 : decode cX10_find 1 = .ok (.iload_n 1, 1) := by decide +kernel
theorem dX10_find_2 : decode cX10_find 2 = .ok (.invokevirtual 81, 3) := by decide +kernel
theorem dX10_find_5 : decode cX10_find 5 = .ok (.istore_n 2, 1) := by decide +kernel
theorem dX10_find_6 : decode cX10_find 6 = .ok (.iload_n 2, 1) := by decide +kernel
theorem dX10_find_7 : decode cX10_find 7 = .ok (.ifCond .lt 14, 3) := by decide +kernel
theorem dX10_find_10 : decode cX10_find 10 = .ok (.aload_n 0, 1) := by decide +kernel
theorem dX10_find_11 : decode cX10_find 11 = .ok (.getfield 30, 3) := by decide +kernel
theorem dX10_find_14 : decode cX10_find 14 = .ok (.iload_n 2, 1) := by decide +kernel
theorem dX10_find_15 : decode cX10_find 15 = .ok (.iaload, 1) := by decide +kernel
theorem dX10_find_16 : decode cX10_find 16 = .ok (.iconst 1, 1) := by decide +kernel
theorem dX10_find_17 : decode cX10_find 17 = .ok (.isub, 1) := by decide +kernel
theorem dX10_find_18 : decode cX10_find 18 = .ok (.goto 4, 3) := by decide +kernel
theorem dX10_find_21 : decode cX10_find 21 = .ok (.iconst (-1), 1) := by decide +kernel
theorem dX10_find_22 : decode cX10_find 22 = .ok (.ireturn, 1) := by decide +kernel
set_option maxRecDepth 20000 in
theorem ggX10_followers_X10_after : GoodIn wsX10_followers wsX10_after := goodIn_r _ [6, 7, 1, 8, 9, 10, 11, 12, 13, 14, 15, 16, 17, 18, 19] (by decide +kernel) (by decide +kernel)
set_option maxRecDepth 20000 in
theorem gX10_followers_X10_after : GoodIn wsX10_followers (wsV RX10 84 RX10 yX10_after wsX10_after) := goodIn_app (goodIn_of _ (by decide +kernel)) ggX10_followers_X10_after
theorem dX10_followers_0 : decode cX10_followers 0 = .ok (.lconst 0, 1) := by decide +kernel
theorem dX10_followers_1 : decode cX10_followers 1 = .ok (.lstore_n 2, 1) := by decide +kernel
theorem dX10_followers_2 : decode cX10_followers 2 = .ok (.iconst 0, 1) := by decide +kernel
theorem dX10_followers_3 : decode cX10_followers 3 = .ok (.istore 4, 2) := by decide +kernel
theorem dX10_followers_5 : decode cX10_followers 5 = .ok (.iload 4, 2) := by decide +kernel
theorem dX10_followers_7 : decode cX10_followers 7 = .ok (.aload_n 0, 1) := by decide +kernel
theorem dX10_followers_8 : decode cX10_followers 8 = .ok (.getfield 37, 3) := by decide +kernel
theorem dX10_followers_11 : decode cX10_followers 11 = .ok (.if_icmp .ge 21, 3) := by decide +kernel
theorem dX10_followers_14 : decode cX10_followers 14 = .ok (.lload_n 2, 1) := by decide +kernel
theorem dX10_followers_15 : decode cX10_followers 15 = .ok (.lconst 1, 1) := by decide +kernel
theorem dX10_followers_16 : decode cX10_followers 16 = .ok (.aload_n 0, 1) := by decide +kernel
theorem dX10_followers_17 : decode cX10_followers 17 = .ok (.iload_n 1, 1) := by decide +kernel
theorem dX10_followers_18 : decode cX10_followers 18 = .ok (.iload 4, 2) := by decide +kernel
theorem dX10_followers_20 : decode cX10_followers 20 = .ok (.invokevirtual 84, 3) := by decide +kernel
theorem dX10_followers_23 : decode cX10_followers 23 = .ok (.lshl, 1) := by decide +kernel
theorem dX10_followers_24 : decode cX10_followers 24 = .ok (.lor, 1) := by decide +kernel
theorem dX10_followers_25 : decode cX10_followers 25 = .ok (.lstore_n 2, 1) := by decide +kernel
theorem dX10_followers_26 : decode cX10_followers 26 = .ok (.iinc 4 1, 3) := by decide +kernel
theorem dX10_followers_29 : decode cX10_followers 29 = .ok (.goto (-24), 3) := by decide +kernel
theorem dX10_followers_32 : decode cX10_followers 32 = .ok (.lload_n 2, 1) := by decide +kernel
theorem dX10_followers_33 : decode cX10_followers 33 = .ok (.lreturn, 1) := by decide +kernel
set_option maxRecDepth 20000 in
theorem ggX10_link_X1_then : GoodIn wsX10_link wsX1_then := goodIn_r _ [9, 10, 11, 12, 13, 14, 15, 16, 17, 18, 8, 19] (by decide +kernel) (by decide +kernel)
set_option maxRecDepth 20000 in
theorem gX10_link_X1_then : GoodIn wsX10_link (va_wsS RX10 88 yX1_then wsX1_then) := goodIn_app (goodIn_of _ (by decide +kernel)) ggX10_link_X1_then
set_option maxRecDepth 20000 in
theorem ggX10_link_X10_numberOf : GoodIn wsX10_link wsX10_numberOf := goodIn_r _ [24, 25, 26, 2, 3, 27, 28, 29, 30, 23, 31, 32, 33, 34, 35, 36, 37, 38, 39, 40, 41, 42, 43] (by decide +kernel) (by decide +kernel)
set_option maxRecDepth 20000 in
theorem gX10_link_X10_numberOf : GoodIn wsX10_link (wsV RX10 60 RX10 yX10_numberOf wsX10_numberOf) := goodIn_app (goodIn_of _ (by decide +kernel)) ggX10_link_X10_numberOf
theorem dX10_link_0 : decode cX10_link 0 = .ok (.iload_n 2, 1) := by decide +kernel
theorem dX10_link_1 : decode cX10_link 1 = .ok (.istore_n 3, 1) := by decide +kernel
theorem dX10_link_2 : decode cX10_link 2 = .ok (.iload_n 3, 1) := by decide +kernel
theorem dX10_link_3 : decode cX10_link 3 = .ok (.aload_n 0, 1) := by decide +kernel
theorem dX10_link_4 : decode cX10_link 4 = .ok (.getfield 37, 3) := by decide +kernel
theorem dX10_link_7 : decode cX10_link 7 = .ok (.if_icmp .ge 55, 3) := by decide +kernel
theorem dX10_link_10 : decode cX10_link 10 = .ok (.aload_n 0, 1) := by decide +kernel
theorem dX10_link_11 : decode cX10_link 11 = .ok (.getfield 40, 3) := by decide +kernel
theorem dX10_link_14 : decode cX10_link 14 = .ok (.ifCond .ne 48, 3) := by decide +kernel
theorem dX10_link_17 : decode cX10_link 17 = .ok (.aload_n 0, 1) := by decide +kernel
theorem dX10_link_18 : decode cX10_link 18 = .ok (.getfield 9, 3) := by decide +kernel
theorem dX10_link_21 : decode cX10_link 21 = .ok (.iload_n 1, 1) := by decide +kernel
theorem dX10_link_22 : decode cX10_link 22 = .ok (.iaload, 1) := by decide +kernel
theorem dX10_link_23 : decode cX10_link 23 = .ok (.aload_n 0, 1) := by decide +kernel
theorem dX10_link_24 : decode cX10_link 24 = .ok (.getfield 9, 3) := by decide +kernel
theorem dX10_link_27 : decode cX10_link 27 = .ok (.aload_n 0, 1) := by decide +kernel
theorem dX10_link_28 : decode cX10_link 28 = .ok (.getfield 18, 3) := by decide +kernel
theorem dX10_link_31 : decode cX10_link 31 = .ok (.iload_n 3, 1) := by decide +kernel
theorem dX10_link_32 : decode cX10_link 32 = .ok (.iaload, 1) := by decide +kernel
theorem dX10_link_33 : decode cX10_link 33 = .ok (.iaload, 1) := by decide +kernel
theorem dX10_link_34 : decode cX10_link 34 = .ok (.invokestatic 88, 3) := by decide +kernel
theorem dX10_link_37 : decode cX10_link 37 = .ok (.istore 4, 2) := by decide +kernel
theorem dX10_link_39 : decode cX10_link 39 = .ok (.aload_n 0, 1) := by decide +kernel
theorem dX10_link_40 : decode cX10_link 40 = .ok (.getfield 21, 3) := by decide +kernel
theorem dX10_link_43 : decode cX10_link 43 = .ok (.iload_n 1, 1) := by decide +kernel
theorem dX10_link_44 : decode cX10_link 44 = .ok (.bipush 60, 2) := by decide +kernel
theorem dX10_link_46 : decode cX10_link 46 = .ok (.imul, 1) := by decide +kernel
theorem dX10_link_47 : decode cX10_link 47 = .ok (.iload_n 3, 1) := by decide +kernel
theorem dX10_link_48 : decode cX10_link 48 = .ok (.iadd, 1) := by decide +kernel
theorem dX10_link_49 : decode cX10_link 49 = .ok (.aload_n 0, 1) := by decide +kernel
theorem dX10_link_50 : decode cX10_link 50 = .ok (.iload 4, 2) := by decide +kernel
theorem dX10_link_52 : decode cX10_link 52 = .ok (.invokevirtual 60, 3) := by decide +kernel
theorem dX10_link_55 : decode cX10_link 55 = .ok (.iastore, 1) := by decide +kernel
theorem dX10_link_56 : decode cX10_link 56 = .ok (.iinc 3 1, 3) := by decide +kernel
theorem dX10_link_59 : decode cX10_link 59 = .ok (.goto (-57), 3) := by decide +kernel
theorem dX10_link_62 : decode cX10_link 62 = .ok (.return_, 1) := by decide +kernel
set_option maxRecDepth 20000 in
theorem ggX10_stepFor_X10_numberOf : GoodIn wsX10_stepFor wsX10_numberOf := goodIn_r _ [9, 10, 11, 1, 12, 2, 13, 14, 15, 8, 16, 17, 18, 19, 20, 21, 22, 23, 24, 25, 26, 27, 28] (by decide +kernel) (by decide +kernel)
set_option maxRecDepth 20000 in
theorem gX10_stepFor_X10_numberOf : GoodIn wsX10_stepFor (wsV RX10 60 RX10 yX10_numberOf wsX10_numberOf) := goodIn_app (goodIn_of _ (by decide +kernel)) ggX10_stepFor_X10_numberOf
theorem dX10_stepFor_0 : decode cX10_stepFor 0 = .ok (.aload_n 0, 1) := by decide +kernel
theorem dX10_stepFor_1 : decode cX10_stepFor 1 = .ok (.iload_n 1, 1) := by decide +kernel
theorem dX10_stepFor_2 : decode cX10_stepFor 2 = .ok (.invokevirtual 60, 3) := by decide +kernel
theorem dX10_stepFor_5 : decode cX10_stepFor 5 = .ok (.istore_n 2, 1) := by decide +kernel
theorem dX10_stepFor_6 : decode cX10_stepFor 6 = .ok (.aload_n 0, 1) := by decide +kernel
theorem dX10_stepFor_7 : decode cX10_stepFor 7 = .ok (.getfield 40, 3) := by decide +kernel
theorem dX10_stepFor_10 : decode cX10_stepFor 10 = .ok (.ifCond .eq 5, 3) := by decide +kernel
theorem dX10_stepFor_13 : decode cX10_stepFor 13 = .ok (.iconst 0, 1) := by decide +kernel
theorem dX10_stepFor_14 : decode cX10_stepFor 14 = .ok (.ireturn, 1) := by decide +kernel
theorem dX10_stepFor_15 : decode cX10_stepFor 15 = .ok (.aload_n 0, 1) := by decide +kernel
theorem dX10_stepFor_16 : decode cX10_stepFor 16 = .ok (.getfield 15, 3) := by decide +kernel
theorem dX10_stepFor_19 : decode cX10_stepFor 19 = .ok (.iload_n 2, 1) := by decide +kernel
theorem dX10_stepFor_20 : decode cX10_stepFor 20 = .ok (.iaload, 1) := by decide +kernel
theorem dX10_stepFor_21 : decode cX10_stepFor 21 = .ok (.ifCond .ge 42, 3) := by decide +kernel
theorem dX10_stepFor_24 : decode cX10_stepFor 24 = .ok (.aload_n 0, 1) := by decide +kernel
theorem dX10_stepFor_25 : decode cX10_stepFor 25 = .ok (.getfield 37, 3) := by decide +kernel
theorem dX10_stepFor_28 : decode cX10_stepFor 28 = .ok (.bipush 60, 2) := by decide +kernel
theorem dX10_stepFor_30 : decode cX10_stepFor 30 = .ok (.if_icmp .ge 33, 3) := by decide +kernel
theorem dX10_stepFor_33 : decode cX10_stepFor 33 = .ok (.aload_n 0, 1) := by decide +kernel
theorem dX10_stepFor_34 : decode cX10_stepFor 34 = .ok (.getfield 15, 3) := by decide +kernel
theorem dX10_stepFor_37 : decode cX10_stepFor 37 = .ok (.iload_n 2, 1) := by decide +kernel
theorem dX10_stepFor_38 : decode cX10_stepFor 38 = .ok (.aload_n 0, 1) := by decide +kernel
theorem dX10_stepFor_39 : decode cX10_stepFor 39 = .ok (.getfield 37, 3) := by decide +kernel
theorem dX10_stepFor_42 : decode cX10_stepFor 42 = .ok (.iastore, 1) := by decide +kernel
theorem dX10_stepFor_43 : decode cX10_stepFor 43 = .ok (.aload_n 0, 1) := by decide +kernel
theorem dX10_stepFor_44 : decode cX10_stepFor 44 = .ok (.getfield 18, 3) := by decide +kernel
theorem dX10_stepFor_47 : decode cX10_stepFor 47 = .ok (.aload_n 0, 1) := by decide +kernel
theorem dX10_stepFor_48 : decode cX10_stepFor 48 = .ok (.getfield 37, 3) := by decide +kernel
theorem dX10_stepFor_51 : decode cX10_stepFor 51 = .ok (.iload_n 2, 1) := by decide +kernel
theorem dX10_stepFor_52 : decode cX10_stepFor 52 = .ok (.iastore, 1) := by decide +kernel
theorem dX10_stepFor_53 : decode cX10_stepFor 53 = .ok (.aload_n 0, 1) := by decide +kernel
theorem dX10_stepFor_54 : decode cX10_stepFor 54 = .ok (.dup, 1) := by decide +kernel
theorem dX10_stepFor_55 : decode cX10_stepFor 55 = .ok (.getfield 37, 3) := by decide +kernel
theorem dX10_stepFor_58 : decode cX10_stepFor 58 = .ok (.iconst 1, 1) := by decide +kernel
theorem dX10_stepFor_59 : decode cX10_stepFor 59 = .ok (.iadd, 1) := by decide +kernel
theorem dX10_stepFor_60 : decode cX10_stepFor 60 = .ok (.putfield 37, 3) := by decide +kernel
theorem dX10_stepFor_63 : decode cX10_stepFor 63 = .ok (.aload_n 0, 1) := by decide +kernel
theorem dX10_stepFor_64 : decode cX10_stepFor 64 = .ok (.getfield 15, 3) := by decide +kernel
theorem dX10_stepFor_67 : decode cX10_stepFor 67 = .ok (.iload_n 2, 1) := by decide +kernel
theorem dX10_stepFor_68 : decode cX10_stepFor 68 = .ok (.iaload, 1) := by decide +kernel
theorem dX10_stepFor_69 : decode cX10_stepFor 69 = .ok (.ireturn, 1) := by decide +kernel
set_option maxRecDepth 20000 in
theorem ggX10_numberOf_X10_slotOf : GoodIn wsX10_numberOf wsX10_slotOf := goodIn_r _ [10, 11, 1, 4, 12, 13, 14, 15, 16, 17, 18, 19, 20, 21, 22] (by decide +kernel) (by decide +kernel)
set_option maxRecDepth 20000 in
theorem gX10_numberOf_X10_slotOf : GoodIn wsX10_numberOf (wsV RX10 81 RX10 yX10_slotOf wsX10_slotOf) := goodIn_app (goodIn_of _ (by decide +kernel)) ggX10_numberOf_X10_slotOf
theorem dX10_numberOf_0 : decode cX10_numberOf 0 = .ok (.aload_n 0, 1) := by decide +kernel
theorem dX10_numberOf_1 : decode cX10_numberOf 1 = .ok (.iload_n 1, 1) := by decide +kernel
theorem dX10_numberOf_2 : decode cX10_numberOf 2 = .ok (.invokevirtual 81, 3) := by decide +kernel
theorem dX10_numberOf_5 : decode cX10_numberOf 5 = .ok (.istore_n 2, 1) := by decide +kernel
theorem dX10_numberOf_6 : decode cX10_numberOf 6 = .ok (.iload_n 2, 1) := by decide +kernel
theorem dX10_numberOf_7 : decode cX10_numberOf 7 = .ok (.ifCond .lt 21, 3) := by decide +kernel
theorem dX10_numberOf_10 : decode cX10_numberOf 10 = .ok (.aload_n 0, 1) := by decide +kernel
theorem dX10_numberOf_11 : decode cX10_numberOf 11 = .ok (.getfield 30, 3) := by decide +kernel
theorem dX10_numberOf_14 : decode cX10_numberOf 14 = .ok (.iload_n 2, 1) := by decide +kernel
theorem dX10_numberOf_15 : decode cX10_numberOf 15 = .ok (.iaload, 1) := by decide +kernel
theorem dX10_numberOf_16 : decode cX10_numberOf 16 = .ok (.ifCond .le 12, 3) := by decide +kernel
theorem dX10_numberOf_19 : decode cX10_numberOf 19 = .ok (.aload_n 0, 1) := by decide +kernel
theorem dX10_numberOf_20 : decode cX10_numberOf 20 = .ok (.getfield 30, 3) := by decide +kernel
theorem dX10_numberOf_23 : decode cX10_numberOf 23 = .ok (.iload_n 2, 1) := by decide +kernel
theorem dX10_numberOf_24 : decode cX10_numberOf 24 = .ok (.iaload, 1) := by decide +kernel
theorem dX10_numberOf_25 : decode cX10_numberOf 25 = .ok (.iconst 1, 1) := by decide +kernel
theorem dX10_numberOf_26 : decode cX10_numberOf 26 = .ok (.isub, 1) := by decide +kernel
theorem dX10_numberOf_27 : decode cX10_numberOf 27 = .ok (.ireturn, 1) := by decide +kernel
theorem dX10_numberOf_28 : decode cX10_numberOf 28 = .ok (.iload_n 2, 1) := by decide +kernel
theorem dX10_numberOf_29 : decode cX10_numberOf 29 = .ok (.ifCond .lt 12, 3) := by decide +kernel
theorem dX10_numberOf_32 : decode cX10_numberOf 32 = .ok (.aload_n 0, 1) := by decide +kernel
theorem dX10_numberOf_33 : decode cX10_numberOf 33 = .ok (.getfield 33, 3) := by decide +kernel
theorem dX10_numberOf_36 : decode cX10_numberOf 36 = .ok (.bipush 60, 2) := by decide +kernel
theorem dX10_numberOf_38 : decode cX10_numberOf 38 = .ok (.if_icmp .lt 10, 3) := by decide +kernel
theorem dX10_numberOf_41 : decode cX10_numberOf 41 = .ok (.aload_n 0, 1) := by decide +kernel
theorem dX10_numberOf_42 : decode cX10_numberOf 42 = .ok (.iconst 1, 1) := by decide +kernel
theorem dX10_numberOf_43 : decode cX10_numberOf 43 = .ok (.putfield 40, 3) := by decide +kernel
theorem dX10_numberOf_46 : decode cX10_numberOf 46 = .ok (.iconst 0, 1) := by decide +kernel
theorem dX10_numberOf_47 : decode cX10_numberOf 47 = .ok (.ireturn, 1) := by decide +kernel
theorem dX10_numberOf_48 : decode cX10_numberOf 48 = .ok (.aload_n 0, 1) := by decide +kernel
theorem dX10_numberOf_49 : decode cX10_numberOf 49 = .ok (.getfield 9, 3) := by decide +kernel
theorem dX10_numberOf_52 : decode cX10_numberOf 52 = .ok (.aload_n 0, 1) := by decide +kernel
theorem dX10_numberOf_53 : decode cX10_numberOf 53 = .ok (.getfield 33, 3) := by decide +kernel
theorem dX10_numberOf_56 : decode cX10_numberOf 56 = .ok (.iload_n 1, 1) := by decide +kernel
theorem dX10_numberOf_57 : decode cX10_numberOf 57 = .ok (.iastore, 1) := by decide +kernel
theorem dX10_numberOf_58 : decode cX10_numberOf 58 = .ok (.aload_n 0, 1) := by decide +kernel
theorem dX10_numberOf_59 : decode cX10_numberOf 59 = .ok (.getfield 15, 3) := by decide +kernel
theorem dX10_numberOf_62 : decode cX10_numberOf 62 = .ok (.aload_n 0, 1) := by decide +kernel
theorem dX10_numberOf_63 : decode cX10_numberOf 63 = .ok (.getfield 33, 3) := by decide +kernel
theorem dX10_numberOf_66 : decode cX10_numberOf 66 = .ok (.iconst (-1), 1) := by decide +kernel
theorem dX10_numberOf_67 : decode cX10_numberOf 67 = .ok (.iastore, 1) := by decide +kernel
theorem dX10_numberOf_68 : decode cX10_numberOf 68 = .ok (.aload_n 0, 1) := by decide +kernel
theorem dX10_numberOf_69 : decode cX10_numberOf 69 = .ok (.dup, 1) := by decide +kernel
theorem dX10_numberOf_70 : decode cX10_numberOf 70 = .ok (.getfield 33, 3) := by decide +kernel
theorem dX10_numberOf_73 : decode cX10_numberOf 73 = .ok (.iconst 1, 1) := by decide +kernel
theorem dX10_numberOf_74 : decode cX10_numberOf 74 = .ok (.iadd, 1) := by decide +kernel
theorem dX10_numberOf_75 : decode cX10_numberOf 75 = .ok (.putfield 33, 3) := by decide +kernel
theorem dX10_numberOf_78 : decode cX10_numberOf 78 = .ok (.aload_n 0, 1) := by decide +kernel
theorem dX10_numberOf_79 : decode cX10_numberOf 79 = .ok (.getfield 30, 3) := by decide +kernel
theorem dX10_numberOf_82 : decode cX10_numberOf 82 = .ok (.iload_n 2, 1) := by decide +kernel
theorem dX10_numberOf_83 : decode cX10_numberOf 83 = .ok (.aload_n 0, 1) := by decide +kernel
theorem dX10_numberOf_84 : decode cX10_numberOf 84 = .ok (.getfield 33, 3) := by decide +kernel
theorem dX10_numberOf_87 : decode cX10_numberOf 87 = .ok (.iastore, 1) := by decide +kernel
theorem dX10_numberOf_88 : decode cX10_numberOf 88 = .ok (.aload_n 0, 1) := by decide +kernel
theorem dX10_numberOf_89 : decode cX10_numberOf 89 = .ok (.getfield 33, 3) := by decide +kernel
theorem dX10_numberOf_92 : decode cX10_numberOf 92 = .ok (.iconst 1, 1) := by decide +kernel
theorem dX10_numberOf_93 : decode cX10_numberOf 93 = .ok (.isub, 1) := by decide +kernel
theorem dX10_numberOf_94 : decode cX10_numberOf 94 = .ok (.ireturn, 1) := by decide +kernel
theorem dX10_slotOf_0 : decode cX10_slotOf 0 = .ok (.iload_n 1, 1) := by decide +kernel
theorem dX10_slotOf_1 : decode cX10_slotOf 1 = .ok (.ldc 91, 2) := by decide +kernel
theorem dX10_slotOf_3 : decode cX10_slotOf 3 = .ok (.imul, 1) := by decide +kernel
theorem dX10_slotOf_4 : decode cX10_slotOf 4 = .ok (.iconst 5, 1) := by decide +kernel
theorem dX10_slotOf_5 : decode cX10_slotOf 5 = .ok (.ishr, 1) := by decide +kernel
theorem dX10_slotOf_6 : decode cX10_slotOf 6 = .ok (.istore_n 2, 1) := by decide +kernel
theorem dX10_slotOf_7 : decode cX10_slotOf 7 = .ok (.iconst 0, 1) := by decide +kernel
theorem dX10_slotOf_8 : decode cX10_slotOf 8 = .ok (.istore_n 3, 1) := by decide +kernel
theorem dX10_slotOf_9 : decode cX10_slotOf 9 = .ok (.iload_n 3, 1) := by decide +kernel
theorem dX10_slotOf_10 : decode cX10_slotOf 10 = .ok (.sipush 256, 3) := by decide +kernel
theorem dX10_slotOf_13 : decode cX10_slotOf 13 = .ok (.if_icmp .ge 49, 3) := by decide +kernel
theorem dX10_slotOf_16 : decode cX10_slotOf 16 = .ok (.iload_n 2, 1) := by decide +kernel
theorem dX10_slotOf_17 : decode cX10_slotOf 17 = .ok (.iload_n 3, 1) := by decide +kernel
theorem dX10_slotOf_18 : decode cX10_slotOf 18 = .ok (.iadd, 1) := by decide +kernel
theorem dX10_slotOf_19 : decode cX10_slotOf 19 = .ok (.sipush 255, 3) := by decide +kernel
theorem dX10_slotOf_22 : decode cX10_slotOf 22 = .ok (.iand, 1) := by decide +kernel
theorem dX10_slotOf_23 : decode cX10_slotOf 23 = .ok (.istore 4, 2) := by decide +kernel
theorem dX10_slotOf_25 : decode cX10_slotOf 25 = .ok (.aload_n 0, 1) := by decide +kernel
theorem dX10_slotOf_26 : decode cX10_slotOf 26 = .ok (.getfield 30, 3) := by decide +kernel
theorem dX10_slotOf_29 : decode cX10_slotOf 29 = .ok (.iload 4, 2) := by decide +kernel
theorem dX10_slotOf_31 : decode cX10_slotOf 31 = .ok (.iaload, 1) := by decide +kernel
theorem dX10_slotOf_32 : decode cX10_slotOf 32 = .ok (.ifCond .eq 21, 3) := by decide +kernel
theorem dX10_slotOf_35 : decode cX10_slotOf 35 = .ok (.aload_n 0, 1) := by decide +kernel
theorem dX10_slotOf_36 : decode cX10_slotOf 36 = .ok (.getfield 9, 3) := by decide +kernel
theorem dX10_slotOf_39 : decode cX10_slotOf 39 = .ok (.aload_n 0, 1) := by decide +kernel
theorem dX10_slotOf_40 : decode cX10_slotOf 40 = .ok (.getfield 30, 3) := by decide +kernel
theorem dX10_slotOf_43 : decode cX10_slotOf 43 = .ok (.iload 4, 2) := by decide +kernel
theorem dX10_slotOf_45 : decode cX10_slotOf 45 = .ok (.iaload, 1) := by decide +kernel
theorem dX10_slotOf_46 : decode cX10_slotOf 46 = .ok (.iconst 1, 1) := by decide +kernel
theorem dX10_slotOf_47 : decode cX10_slotOf 47 = .ok (.isub, 1) := by decide +kernel
theorem dX10_slotOf_48 : decode cX10_slotOf 48 = .ok (.iaload, 1) := by decide +kernel
theorem dX10_slotOf_49 : decode cX10_slotOf 49 = .ok (.iload_n 1, 1) := by decide +kernel
theorem dX10_slotOf_50 : decode cX10_slotOf 50 = .ok (.if_icmp .ne 6, 3) := by decide +kernel
theorem dX10_slotOf_53 : decode cX10_slotOf 53 = .ok (.iload 4, 2) := by decide +kernel
theorem dX10_slotOf_55 : decode cX10_slotOf 55 = .ok (.ireturn, 1) := by decide +kernel
theorem dX10_slotOf_56 : decode cX10_slotOf 56 = .ok (.iinc 3 1, 3) := by decide +kernel
theorem dX10_slotOf_59 : decode cX10_slotOf 59 = .ok (.goto (-50), 3) := by decide +kernel
theorem dX10_slotOf_62 : decode cX10_slotOf 62 = .ok (.iconst (-1), 1) := by decide +kernel
theorem dX10_slotOf_63 : decode cX10_slotOf 63 = .ok (.ireturn, 1) := by decide +kernel
set_option maxRecDepth 20000 in
theorem ggX11_init_X5_init : GoodIn wsX11_init wsX5_init := goodIn_r _ [51, 52, 2, 3, 53, 54, 55, 56, 57, 58, 175, 176, 177, 178, 179] (by decide +kernel) (by decide +kernel)
set_option maxRecDepth 20000 in
theorem gX11_init_X5_init_n9 : GoodIn wsX11_init (wsX5_init) := ggX11_init_X5_init
set_option maxRecDepth 20000 in
theorem ggX11_init_X8_init : GoodIn wsX11_init wsX8_init := goodIn_r _ [60, 61, 2, 3, 53, 62, 63, 64, 65, 66, 67, 68, 69, 196, 197, 198, 199, 200, 201, 202, 203] (by decide +kernel) (by decide +kernel)
set_option maxRecDepth 20000 in
theorem gX11_init_X8_init_n21 : GoodIn wsX11_init (wsX8_init) := ggX11_init_X8_init
set_option maxRecDepth 20000 in
theorem ggX11_init_X6_init : GoodIn wsX11_init wsX6_init := goodIn_r _ [71, 72, 2, 3, 53, 73, 74, 75, 204, 205, 206] (by decide +kernel) (by decide +kernel)
set_option maxRecDepth 20000 in
theorem gX11_init_X6_init_n28 : GoodIn wsX11_init (wsX6_init) := ggX11_init_X6_init
set_option maxRecDepth 20000 in
theorem ggX11_init_X9_init : GoodIn wsX11_init wsX9_init := goodIn_r _ [77, 78, 2, 3, 53, 79, 80, 81, 207, 208, 209] (by decide +kernel) (by decide +kernel)
set_option maxRecDepth 20000 in
theorem gX11_init_X9_init_n35 : GoodIn wsX11_init (wsX9_init) := ggX11_init_X9_init
set_option maxRecDepth 20000 in
theorem ggX11_init_X7_init : GoodIn wsX11_init wsX7_init := goodIn_r _ [83, 84, 2, 3, 85, 86, 87, 88, 89, 210, 211, 212, 213] (by decide +kernel) (by decide +kernel)
set_option maxRecDepth 20000 in
theorem gX11_init_X7_init_n42 : GoodIn wsX11_init (wsX7_init) := ggX11_init_X7_init
set_option maxRecDepth 20000 in
theorem ggX11_init_X1_init : GoodIn wsX11_init wsX1_init := goodIn_r _ [92, 93, 2, 3, 94, 95, 96, 223, 224, 225] (by decide +kernel) (by decide +kernel)
set_option maxRecDepth 20000 in
theorem gX11_init_X1_init : GoodIn wsX11_init (wsX1_init) := ggX11_init_X1_init
set_option maxRecDepth 20000 in
theorem ggX11_init_X4_init : GoodIn wsX11_init wsX4_init := goodIn_r _ [99, 100, 2, 3, 101, 102, 103, 104, 105, 106, 107, 108, 109, 110, 53, 111, 85, 112, 113, 114, 115, 116, 117, 118, 119, 120, 121, 122, 123, 124, 125, 126, 127, 128, 129, 130, 30, 131, 96, 214, 215, 216, 217, 218, 219, 220, 221, 222, 247, 248, 249, 250, 251, 252, 253, 254, 255, 256, 257, 223, 224, 225] (by decide +kernel) (by decide +kernel)
set_option maxRecDepth 20000 in
theorem gX11_init_X4_init : GoodIn wsX11_init (wsX4_init) := ggX11_init_X4_init
set_option maxRecDepth 20000 in
theorem ggX11_init_X2_init : GoodIn wsX11_init wsX2_init := goodIn_r _ [134, 135, 2, 3, 53, 136, 137, 138, 139, 140, 141, 142, 143, 144, 145, 27, 146, 106, 147, 129, 130, 30, 131, 96, 226, 227, 228, 229, 230, 231, 232, 214, 215, 216, 217, 218, 219, 220, 221, 222, 223, 224, 225] (by decide +kernel) (by decide +kernel)
set_option maxRecDepth 20000 in
theorem gX11_init_X2_init : GoodIn wsX11_init (wsX2_init) := ggX11_init_X2_init
set_option maxRecDepth 20000 in
theorem ggX11_init_X0_init : GoodIn wsX11_init wsX0_init := goodIn_r _ [150, 151, 2, 3, 85, 152, 153, 154, 155, 156, 157, 158, 159, 160, 144, 145, 27, 146, 106, 161, 129, 130, 30, 131, 96, 233, 234, 235, 236, 237, 238, 239, 240, 214, 215, 216, 217, 218, 219, 220, 221, 222, 223, 224, 225] (by decide +kernel) (by decide +kernel)
set_option maxRecDepth 20000 in
theorem gX11_init_X0_init : GoodIn wsX11_init (wsX0_init) := ggX11_init_X0_init
set_option maxRecDepth 20000 in
theorem ggX11_init_X3_init : GoodIn wsX11_init wsX3_init := goodIn_r _ [164, 165, 2, 3, 166, 14, 15, 167, 168, 18, 19, 169, 85, 170, 171, 172, 173, 174, 70, 71, 72, 53, 73, 74, 75, 76, 77, 78, 79, 80, 81, 204, 205, 206, 241, 242, 243, 244, 245, 246, 207, 208, 209] (by decide +kernel) (by decide +kernel)
set_option maxRecDepth 20000 in
theorem gX11_init_X3_init : GoodIn wsX11_init (wsX3_init) := ggX11_init_X3_init
theorem dX11_init_0 : decode cX11_init 0 = .ok (.aload_n 0, 1) := by decide +kernel
theorem dX11_init_1 : decode cX11_init 1 = .ok (.invokespecial 1, 3) := by decide +kernel
theorem dX11_init_4 : decode cX11_init 4 = .ok (.aload_n 0, 1) := by decide +kernel
theorem dX11_init_5 : decode cX11_init 5 = .ok (.new 7, 3) := by decide +kernel
theorem dX11_init_8 : decode cX11_init 8 = .ok (.dup, 1) := by decide +kernel
theorem dX11_init_9 : decode cX11_init 9 = .ok (.invokespecial 9, 3) := by decide +kernel
theorem dX11_init_12 : decode cX11_init 12 = .ok (.putfield 10, 3) := by decide +kernel
theorem dX11_init_15 : decode cX11_init 15 = .ok (.aload_n 0, 1) := by decide +kernel
theorem dX11_init_16 : decode cX11_init 16 = .ok (.new 7, 3) := by decide +kernel
theorem dX11_init_19 : decode cX11_init 19 = .ok (.dup, 1) := by decide +kernel
theorem dX11_init_20 : decode cX11_init 20 = .ok (.invokespecial 9, 3) := by decide +kernel
theorem dX11_init_23 : decode cX11_init 23 = .ok (.putfield 16, 3) := by decide +kernel
theorem dX11_init_26 : decode cX11_init 26 = .ok (.aload_n 0, 1) := by decide +kernel
theorem dX11_init_27 : decode cX11_init 27 = .ok (.new 19, 3) := by decide +kernel
theorem dX11_init_30 : decode cX11_init 30 = .ok (.dup, 1) := by decide +kernel
theorem dX11_init_31 : decode cX11_init 31 = .ok (.invokespecial 21, 3) := by decide +kernel
theorem dX11_init_34 : decode cX11_init 34 = .ok (.putfield 22, 3) := by decide +kernel
theorem dX11_init_37 : decode cX11_init 37 = .ok (.aload_n 0, 1) := by decide +kernel
theorem dX11_init_38 : decode cX11_init 38 = .ok (.new 26, 3) := by decide +kernel
theorem dX11_init_41 : decode cX11_init 41 = .ok (.dup, 1) := by decide +kernel
theorem dX11_init_42 : decode cX11_init 42 = .ok (.invokespecial 28, 3) := by decide +kernel
theorem dX11_init_45 : decode cX11_init 45 = .ok (.putfield 29, 3) := by decide +kernel
theorem dX11_init_48 : decode cX11_init 48 = .ok (.aload_n 0, 1) := by decide +kernel
theorem dX11_init_49 : decode cX11_init 49 = .ok (.new 33, 3) := by decide +kernel
theorem dX11_init_52 : decode cX11_init 52 = .ok (.dup, 1) := by decide +kernel
theorem dX11_init_53 : decode cX11_init 53 = .ok (.invokespecial 35, 3) := by decide +kernel
theorem dX11_init_56 : decode cX11_init 56 = .ok (.putfield 36, 3) := by decide +kernel
theorem dX11_init_59 : decode cX11_init 59 = .ok (.aload_n 0, 1) := by decide +kernel
theorem dX11_init_60 : decode cX11_init 60 = .ok (.new 40, 3) := by decide +kernel
theorem dX11_init_63 : decode cX11_init 63 = .ok (.dup, 1) := by decide +kernel
theorem dX11_init_64 : decode cX11_init 64 = .ok (.invokespecial 42, 3) := by decide +kernel
theorem dX11_init_67 : decode cX11_init 67 = .ok (.putfield 43, 3) := by decide +kernel
theorem dX11_init_70 : decode cX11_init 70 = .ok (.aload_n 0, 1) := by decide +kernel
theorem dX11_init_71 : decode cX11_init 71 = .ok (.new 47, 3) := by decide +kernel
theorem dX11_init_74 : decode cX11_init 74 = .ok (.dup, 1) := by decide +kernel
theorem dX11_init_75 : decode cX11_init 75 = .ok (.new 49, 3) := by decide +kernel
theorem dX11_init_78 : decode cX11_init 78 = .ok (.dup, 1) := by decide +kernel
theorem dX11_init_79 : decode cX11_init 79 = .ok (.aload_n 0, 1) := by decide +kernel
theorem dX11_init_80 : decode cX11_init 80 = .ok (.getfield 10, 3) := by decide +kernel
theorem dX11_init_83 : decode cX11_init 83 = .ok (.aload_n 0, 1) := by decide +kernel
theorem dX11_init_84 : decode cX11_init 84 = .ok (.getfield 10, 3) := by decide +kernel
theorem dX11_init_87 : decode cX11_init 87 = .ok (.iconst 0, 1) := by decide +kernel
theorem dX11_init_88 : decode cX11_init 88 = .ok (.invokespecial 51, 3) := by decide +kernel
theorem dX11_init_91 : decode cX11_init 91 = .ok (.invokespecial 54, 3) := by decide +kernel
theorem dX11_init_94 : decode cX11_init 94 = .ok (.putfield 57, 3) := by decide +kernel
theorem dX11_init_97 : decode cX11_init 97 = .ok (.aload_n 0, 1) := by decide +kernel
theorem dX11_init_98 : decode cX11_init 98 = .ok (.new 47, 3) := by decide +kernel
theorem dX11_init_101 : decode cX11_init 101 = .ok (.dup, 1) := by decide +kernel
theorem dX11_init_102 : decode cX11_init 102 = .ok (.new 49, 3) := by decide +kernel
theorem dX11_init_105 : decode cX11_init 105 = .ok (.dup, 1) := by decide +kernel
theorem dX11_init_106 : decode cX11_init 106 = .ok (.aload_n 0, 1) := by decide +kernel
theorem dX11_init_107 : decode cX11_init 107 = .ok (.getfield 16, 3) := by decide +kernel
theorem dX11_init_110 : decode cX11_init 110 = .ok (.aload_n 0, 1) := by decide +kernel
theorem dX11_init_111 : decode cX11_init 111 = .ok (.getfield 16, 3) := by decide +kernel
theorem dX11_init_114 : decode cX11_init 114 = .ok (.iconst 0, 1) := by decide +kernel
theorem dX11_init_115 : decode cX11_init 115 = .ok (.invokespecial 51, 3) := by decide +kernel
theorem dX11_init_118 : decode cX11_init 118 = .ok (.invokespecial 54, 3) := by decide +kernel
theorem dX11_init_121 : decode cX11_init 121 = .ok (.putfield 61, 3) := by decide +kernel
theorem dX11_init_124 : decode cX11_init 124 = .ok (.aload_n 0, 1) := by decide +kernel
theorem dX11_init_125 : decode cX11_init 125 = .ok (.new 47, 3) := by decide +kernel
theorem dX11_init_128 : decode cX11_init 128 = .ok (.dup, 1) := by decide +kernel
theorem dX11_init_129 : decode cX11_init 129 = .ok (.new 49, 3) := by decide +kernel
theorem dX11_init_132 : decode cX11_init 132 = .ok (.dup, 1) := by decide +kernel
theorem dX11_init_133 : decode cX11_init 133 = .ok (.aload_n 0, 1) := by decide +kernel
theorem dX11_init_134 : decode cX11_init 134 = .ok (.getfield 10, 3) := by decide +kernel
theorem dX11_init_137 : decode cX11_init 137 = .ok (.aload_n 0, 1) := by decide +kernel
theorem dX11_init_138 : decode cX11_init 138 = .ok (.getfield 16, 3) := by decide +kernel
theorem dX11_init_141 : decode cX11_init 141 = .ok (.iconst 1, 1) := by decide +kernel
theorem dX11_init_142 : decode cX11_init 142 = .ok (.invokespecial 51, 3) := by decide +kernel
theorem dX11_init_145 : decode cX11_init 145 = .ok (.invokespecial 54, 3) := by decide +kernel
theorem dX11_init_148 : decode cX11_init 148 = .ok (.putfield 64, 3) := by decide +kernel
theorem dX11_init_151 : decode cX11_init 151 = .ok (.aload_n 0, 1) := by decide +kernel
theorem dX11_init_152 : decode cX11_init 152 = .ok (.new 67, 3) := by decide +kernel
theorem dX11_init_155 : decode cX11_init 155 = .ok (.dup, 1) := by decide +kernel
theorem dX11_init_156 : decode cX11_init 156 = .ok (.aload_n 0, 1) := by decide +kernel
theorem dX11_init_157 : decode cX11_init 157 = .ok (.getfield 57, 3) := by decide +kernel
theorem dX11_init_160 : decode cX11_init 160 = .ok (.invokespecial 69, 3) := by decide +kernel
theorem dX11_init_163 : decode cX11_init 163 = .ok (.putfield 72, 3) := by decide +kernel
theorem dX11_init_166 : decode cX11_init 166 = .ok (.aload_n 0, 1) := by decide +kernel
theorem dX11_init_167 : decode cX11_init 167 = .ok (.new 67, 3) := by decide +kernel
theorem dX11_init_170 : decode cX11_init 170 = .ok (.dup, 1) := by decide +kernel
theorem dX11_init_171 : decode cX11_init 171 = .ok (.aload_n 0, 1) := by decide +kernel
theorem dX11_init_172 : decode cX11_init 172 = .ok (.getfield 61, 3) := by decide +kernel
theorem dX11_init_175 : decode cX11_init 175 = .ok (.invokespecial 69, 3) := by decide +kernel
theorem dX11_init_178 : decode cX11_init 178 = .ok (.putfield 76, 3) := by decide +kernel
theorem dX11_init_181 : decode cX11_init 181 = .ok (.aload_n 0, 1) := by decide +kernel
theorem dX11_init_182 : decode cX11_init 182 = .ok (.new 67, 3) := by decide +kernel
theorem dX11_init_185 : decode cX11_init 185 = .ok (.dup, 1) := by decide +kernel
theorem dX11_init_186 : decode cX11_init 186 = .ok (.aload_n 0, 1) := by decide +kernel
theorem dX11_init_187 : decode cX11_init 187 = .ok (.getfield 64, 3) := by decide +kernel
theorem dX11_init_190 : decode cX11_init 190 = .ok (.invokespecial 69, 3) := by decide +kernel
theorem dX11_init_193 : decode cX11_init 193 = .ok (.putfield 79, 3) := by decide +kernel
theorem dX11_init_196 : decode cX11_init 196 = .ok (.aload_n 0, 1) := by decide +kernel
theorem dX11_init_197 : decode cX11_init 197 = .ok (.new 82, 3) := by decide +kernel
theorem dX11_init_200 : decode cX11_init 200 = .ok (.dup, 1) := by decide +kernel
theorem dX11_init_201 : decode cX11_init 201 = .ok (.aload_n 0, 1) := by decide +kernel
theorem dX11_init_202 : decode cX11_init 202 = .ok (.getfield 57, 3) := by decide +kernel
theorem dX11_init_205 : decode cX11_init 205 = .ok (.invokespecial 84, 3) := by decide +kernel
theorem dX11_init_208 : decode cX11_init 208 = .ok (.putfield 85, 3) := by decide +kernel
theorem dX11_init_211 : decode cX11_init 211 = .ok (.aload_n 0, 1) := by decide +kernel
theorem dX11_init_212 : decode cX11_init 212 = .ok (.new 82, 3) := by decide +kernel
theorem dX11_init_215 : decode cX11_init 215 = .ok (.dup, 1) := by decide +kernel
theorem dX11_init_216 : decode cX11_init 216 = .ok (.aload_n 0, 1) := by decide +kernel
theorem dX11_init_217 : decode cX11_init 217 = .ok (.getfield 61, 3) := by decide +kernel
theorem dX11_init_220 : decode cX11_init 220 = .ok (.invokespecial 84, 3) := by decide +kernel
theorem dX11_init_223 : decode cX11_init 223 = .ok (.putfield 89, 3) := by decide +kernel
theorem dX11_init_226 : decode cX11_init 226 = .ok (.aload_n 0, 1) := by decide +kernel
theorem dX11_init_227 : decode cX11_init 227 = .ok (.new 92, 3) := by decide +kernel
theorem dX11_init_230 : decode cX11_init 230 = .ok (.dup, 1) := by decide +kernel
theorem dX11_init_231 : decode cX11_init 231 = .ok (.aload_n 0, 1) := by decide +kernel
theorem dX11_init_232 : decode cX11_init 232 = .ok (.getfield 10, 3) := by decide +kernel
theorem dX11_init_235 : decode cX11_init 235 = .ok (.invokespecial 94, 3) := by decide +kernel
theorem dX11_init_238 : decode cX11_init 238 = .ok (.putfield 97, 3) := by decide +kernel
theorem dX11_init_241 : decode cX11_init 241 = .ok (.aload_n 0, 1) := by decide +kernel
theorem dX11_init_242 : decode cX11_init 242 = .ok (.new 92, 3) := by decide +kernel
theorem dX11_init_245 : decode cX11_init 245 = .ok (.dup, 1) := by decide +kernel
theorem dX11_init_246 : decode cX11_init 246 = .ok (.aload_n 0, 1) := by decide +kernel
theorem dX11_init_247 : decode cX11_init 247 = .ok (.getfield 16, 3) := by decide +kernel
theorem dX11_init_250 : decode cX11_init 250 = .ok (.invokespecial 94, 3) := by decide +kernel
theorem dX11_init_253 : decode cX11_init 253 = .ok (.putfield 101, 3) := by decide +kernel
theorem dX11_init_256 : decode cX11_init 256 = .ok (.return_, 1) := by decide +kernel
set_option maxRecDepth 20000 in
theorem ggX11_reader_X11_isReader : GoodIn wsX11_reader wsX11_isReader := goodIn_r _ [4] (by decide +kernel) (by decide +kernel)
set_option maxRecDepth 20000 in
theorem gX11_reader_X11_isReader : GoodIn wsX11_reader (va_wsS RX11 104 yX11_isReader wsX11_isReader) := goodIn_app (goodIn_of _ (by decide +kernel)) ggX11_reader_X11_isReader
set_option maxRecDepth 20000 in
theorem ggX11_reader_X11_chosen : GoodIn wsX11_reader wsX11_chosen := goodIn_r _ [8, 9, 10, 21, 22, 23, 24, 25, 26, 27, 28, 29, 30, 31, 32, 33, 34, 35, 36] (by decide +kernel) (by decide +kernel)
set_option maxRecDepth 20000 in
theorem gX11_reader_X11_chosen : GoodIn wsX11_reader (wsV RX11 108 RX11 yX11_chosen wsX11_chosen) := goodIn_app (goodIn_of _ (by decide +kernel)) ggX11_reader_X11_chosen
set_option maxRecDepth 20000 in
theorem ggX11_reader_X5_become : GoodIn wsX11_reader wsX5_become := goodIn_r _ [15, 16, 17, 18, 19, 20, 37, 38, 39, 40, 41] (by decide +kernel) (by decide +kernel)
set_option maxRecDepth 20000 in
theorem gX11_reader_X5_become : GoodIn wsX11_reader (wsV RX11 112 RX5 yX5_become wsX5_become) := goodIn_app (goodIn_of _ (by decide +kernel)) ggX11_reader_X5_become
theorem dX11_reader_0 : decode cX11_reader 0 = .ok (.iload_n 1, 1) := by decide +kernel
theorem dX11_reader_1 : decode cX11_reader 1 = .ok (.invokestatic 104, 3) := by decide +kernel
theorem dX11_reader_4 : decode cX11_reader 4 = .ok (.ifCond .ne 6, 3) := by decide +kernel
theorem dX11_reader_7 : decode cX11_reader 7 = .ok (.bipush (-2), 2) := by decide +kernel
theorem dX11_reader_9 : decode cX11_reader 9 = .ok (.ireturn, 1) := by decide +kernel
theorem dX11_reader_10 : decode cX11_reader 10 = .ok (.iload_n 2, 1) := by decide +kernel
theorem dX11_reader_11 : decode cX11_reader 11 = .ok (.iconst 1, 1) := by decide +kernel
theorem dX11_reader_12 : decode cX11_reader 12 = .ok (.if_icmp .lt 18, 3) := by decide +kernel
theorem dX11_reader_15 : decode cX11_reader 15 = .ok (.iload_n 2, 1) := by decide +kernel
theorem dX11_reader_16 : decode cX11_reader 16 = .ok (.iconst 3, 1) := by decide +kernel
theorem dX11_reader_17 : decode cX11_reader 17 = .ok (.if_icmp .gt 13, 3) := by decide +kernel
theorem dX11_reader_20 : decode cX11_reader 20 = .ok (.iload_n 3, 1) := by decide +kernel
theorem dX11_reader_21 : decode cX11_reader 21 = .ok (.iconst 1, 1) := by decide +kernel
theorem dX11_reader_22 : decode cX11_reader 22 = .ok (.if_icmp .lt 8, 3) := by decide +kernel
theorem dX11_reader_25 : decode cX11_reader 25 = .ok (.iload_n 3, 1) := by decide +kernel
theorem dX11_reader_26 : decode cX11_reader 26 = .ok (.iconst 2, 1) := by decide +kernel
theorem dX11_reader_27 : decode cX11_reader 27 = .ok (.if_icmp .le 6, 3) := by decide +kernel
theorem dX11_reader_30 : decode cX11_reader 30 = .ok (.bipush (-3), 2) := by decide +kernel
theorem dX11_reader_32 : decode cX11_reader 32 = .ok (.ireturn, 1) := by decide +kernel
theorem dX11_reader_33 : decode cX11_reader 33 = .ok (.iload 4, 2) := by decide +kernel
theorem dX11_reader_35 : decode cX11_reader 35 = .ok (.ifCond .lt 11, 3) := by decide +kernel
theorem dX11_reader_38 : decode cX11_reader 38 = .ok (.iload 4, 2) := by decide +kernel
theorem dX11_reader_40 : decode cX11_reader 40 = .ok (.iconst 1, 1) := by decide +kernel
theorem dX11_reader_41 : decode cX11_reader 41 = .ok (.iload_n 2, 1) := by decide +kernel
theorem dX11_reader_42 : decode cX11_reader 42 = .ok (.ishl, 1) := by decide +kernel
theorem dX11_reader_43 : decode cX11_reader 43 = .ok (.if_icmp .lt 6, 3) := by decide +kernel
theorem dX11_reader_46 : decode cX11_reader 46 = .ok (.bipush (-3), 2) := by decide +kernel
theorem dX11_reader_48 : decode cX11_reader 48 = .ok (.ireturn, 1) := by decide +kernel
theorem dX11_reader_49 : decode cX11_reader 49 = .ok (.aload_n 0, 1) := by decide +kernel
theorem dX11_reader_50 : decode cX11_reader 50 = .ok (.iload_n 1, 1) := by decide +kernel
theorem dX11_reader_51 : decode cX11_reader 51 = .ok (.invokevirtual 108, 3) := by decide +kernel
theorem dX11_reader_54 : decode cX11_reader 54 = .ok (.iload_n 2, 1) := by decide +kernel
theorem dX11_reader_55 : decode cX11_reader 55 = .ok (.iload_n 3, 1) := by decide +kernel
theorem dX11_reader_56 : decode cX11_reader 56 = .ok (.iload 4, 2) := by decide +kernel
theorem dX11_reader_58 : decode cX11_reader 58 = .ok (.invokevirtual 112, 3) := by decide +kernel
theorem dX11_reader_61 : decode cX11_reader 61 = .ok (.iconst 1, 1) := by decide +kernel
theorem dX11_reader_62 : decode cX11_reader 62 = .ok (.ireturn, 1) := by decide +kernel
set_option maxRecDepth 20000 in
theorem ggX11_write_X8_size : GoodIn wsX11_write wsX8_size := goodIn_r _ [7, 8, 30, 31, 32, 33, 34, 35, 36, 37] (by decide +kernel) (by decide +kernel)
set_option maxRecDepth 20000 in
theorem gX11_write_X8_size : GoodIn wsX11_write (wsV RX11 116 RX8 yX8_size wsX8_size) := goodIn_app (goodIn_of _ (by decide +kernel)) ggX11_write_X8_size
set_option maxRecDepth 20000 in
theorem ggX11_write_X8_append : GoodIn wsX11_write wsX8_append := goodIn_r _ [12, 8, 13, 30, 31, 32, 33, 34, 35, 36, 37] (by decide +kernel) (by decide +kernel)
set_option maxRecDepth 20000 in
theorem gX11_write_X8_append : GoodIn wsX11_write (wsV RX11 122 RX8 yX8_append wsX8_append) := goodIn_app (goodIn_of _ (by decide +kernel)) ggX11_write_X8_append
theorem dX11_write_0 : decode cX11_write 0 = .ok (.iload_n 3, 1) := by decide +kernel
theorem dX11_write_1 : decode cX11_write 1 = .ok (.iconst 1, 1) := by decide +kernel
theorem dX11_write_2 : decode cX11_write 2 = .ok (.if_icmp .lt 9, 3) := by decide +kernel
theorem dX11_write_5 : decode cX11_write 5 = .ok (.iload_n 3, 1) := by decide +kernel
theorem dX11_write_6 : decode cX11_write 6 = .ok (.bipush 8, 2) := by decide +kernel
theorem dX11_write_8 : decode cX11_write 8 = .ok (.if_icmp .le 6, 3) := by decide +kernel
theorem dX11_write_11 : decode cX11_write 11 = .ok (.bipush (-3), 2) := by decide +kernel
theorem dX11_write_13 : decode cX11_write 13 = .ok (.ireturn, 1) := by decide +kernel
theorem dX11_write_14 : decode cX11_write 14 = .ok (.aload_n 0, 1) := by decide +kernel
theorem dX11_write_15 : decode cX11_write 15 = .ok (.getfield 22, 3) := by decide +kernel
theorem dX11_write_18 : decode cX11_write 18 = .ok (.invokevirtual 116, 3) := by decide +kernel
theorem dX11_write_21 : decode cX11_write 21 = .ok (.iload_n 3, 1) := by decide +kernel
theorem dX11_write_22 : decode cX11_write 22 = .ok (.iadd, 1) := by decide +kernel
theorem dX11_write_23 : decode cX11_write 23 = .ok (.sipush 160, 3) := by decide +kernel
theorem dX11_write_26 : decode cX11_write 26 = .ok (.if_icmp .le 6, 3) := by decide +kernel
