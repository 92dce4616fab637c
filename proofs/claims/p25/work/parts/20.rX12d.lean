theorem gX12_meetNode_X12_nodeOf : GoodIn wsX12_meetNode (wsV RX12 314 RX12 yX12_nodeOf wsX12_nodeOf) := gdC (gd4 m40_11 m40_12 m40_13 m1_5 m40_14)
theorem dX12_meetNode_0 : decode cX12_meetNode 0 = .ok (.aload_n 0, 1) := by decide +kernel
theorem dX12_meetNode_1 : decode cX12_meetNode 1 = .ok (.iload_n 1, 1) := by decide +kernel
theorem dX12_meetNode_2 : decode cX12_meetNode 2 = .ok (.iload_n 2, 1) := by decide +kernel
theorem dX12_meetNode_3 : decode cX12_meetNode 3 = .ok (.iload_n 3, 1) := by decide +kernel
theorem dX12_meetNode_4 : decode cX12_meetNode 4 = .ok (.invokevirtual 314, 3) := by decide +kernel
theorem dX12_meetNode_7 : decode cX12_meetNode 7 = .ok (.istore 5, 2) := by decide +kernel
theorem dX12_meetNode_9 : decode cX12_meetNode 9 = .ok (.iload 5, 2) := by decide +kernel
theorem dX12_meetNode_11 : decode cX12_meetNode 11 = .ok (.iconst (-1), 1) := by decide +kernel
theorem dX12_meetNode_12 : decode cX12_meetNode 12 = .ok (.if_icmp .eq 49, 3) := by decide +kernel
theorem dX12_meetNode_15 : decode cX12_meetNode 15 = .ok (.iload 4, 2) := by decide +kernel
theorem dX12_meetNode_17 : decode cX12_meetNode 17 = .ok (.aload_n 0, 1) := by decide +kernel
theorem dX12_meetNode_18 : decode cX12_meetNode 18 = .ok (.getfield 88, 3) := by decide +kernel
theorem dX12_meetNode_21 : decode cX12_meetNode 21 = .ok (.iload 5, 2) := by decide +kernel
theorem dX12_meetNode_23 : decode cX12_meetNode 23 = .ok (.iaload, 1) := by decide +kernel
theorem dX12_meetNode_24 : decode cX12_meetNode 24 = .ok (.if_icmp .ge 7, 3) := by decide +kernel
theorem dX12_meetNode_27 : decode cX12_meetNode 27 = .ok (.iconst 1, 1) := by decide +kernel
theorem dX12_meetNode_28 : decode cX12_meetNode 28 = .ok (.goto 4, 3) := by decide +kernel
theorem dX12_meetNode_31 : decode cX12_meetNode 31 = .ok (.iconst 0, 1) := by decide +kernel
theorem dX12_meetNode_32 : decode cX12_meetNode 32 = .ok (.istore 6, 2) := by decide +kernel
theorem dX12_meetNode_34 : decode cX12_meetNode 34 = .ok (.aload_n 0, 1) := by decide +kernel
theorem dX12_meetNode_35 : decode cX12_meetNode 35 = .ok (.getfield 88, 3) := by decide +kernel
theorem dX12_meetNode_38 : decode cX12_meetNode 38 = .ok (.iload 5, 2) := by decide +kernel
theorem dX12_meetNode_40 : decode cX12_meetNode 40 = .ok (.iload 6, 2) := by decide +kernel
theorem dX12_meetNode_42 : decode cX12_meetNode 42 = .ok (.ifCond .eq 8, 3) := by decide +kernel
theorem dX12_meetNode_45 : decode cX12_meetNode 45 = .ok (.iload 4, 2) := by decide +kernel
theorem dX12_meetNode_47 : decode cX12_meetNode 47 = .ok (.goto 10, 3) := by decide +kernel
theorem dX12_meetNode_50 : decode cX12_meetNode 50 = .ok (.aload_n 0, 1) := by decide +kernel
theorem dX12_meetNode_51 : decode cX12_meetNode 51 = .ok (.getfield 88, 3) := by decide +kernel
theorem dX12_meetNode_54 : decode cX12_meetNode 54 = .ok (.iload 5, 2) := by decide +kernel
theorem dX12_meetNode_56 : decode cX12_meetNode 56 = .ok (.iaload, 1) := by decide +kernel
theorem dX12_meetNode_57 : decode cX12_meetNode 57 = .ok (.iastore, 1) := by decide +kernel
theorem dX12_meetNode_58 : decode cX12_meetNode 58 = .ok (.iload 6, 2) := by decide +kernel
theorem dX12_meetNode_60 : decode cX12_meetNode 60 = .ok (.ireturn, 1) := by decide +kernel
theorem dX12_meetNode_61 : decode cX12_meetNode 61 = .ok (.aload_n 0, 1) := by decide +kernel
theorem dX12_meetNode_62 : decode cX12_meetNode 62 = .ok (.dup, 1) := by decide +kernel
theorem dX12_meetNode_63 : decode cX12_meetNode 63 = .ok (.getfield 318, 3) := by decide +kernel
theorem dX12_meetNode_66 : decode cX12_meetNode 66 = .ok (.aload_n 0, 1) := by decide +kernel
theorem dX12_meetNode_67 : decode cX12_meetNode 67 = .ok (.iload_n 1, 1) := by decide +kernel
theorem dX12_meetNode_68 : decode cX12_meetNode 68 = .ok (.iload_n 2, 1) := by decide +kernel
theorem dX12_meetNode_69 : decode cX12_meetNode 69 = .ok (.iload_n 3, 1) := by decide +kernel
theorem dX12_meetNode_70 : decode cX12_meetNode 70 = .ok (.ifCond .ne 7, 3) := by decide +kernel
theorem dX12_meetNode_73 : decode cX12_meetNode 73 = .ok (.iconst 1, 1) := by decide +kernel
theorem dX12_meetNode_74 : decode cX12_meetNode 74 = .ok (.goto 4, 3) := by decide +kernel
theorem dX12_meetNode_77 : decode cX12_meetNode 77 = .ok (.iconst 0, 1) := by decide +kernel
theorem dX12_meetNode_78 : decode cX12_meetNode 78 = .ok (.invokevirtual 314, 3) := by decide +kernel
theorem dX12_meetNode_81 : decode cX12_meetNode 81 = .ok (.iconst (-1), 1) := by decide +kernel
theorem dX12_meetNode_82 : decode cX12_meetNode 82 = .ok (.if_icmp .ne 7, 3) := by decide +kernel
theorem dX12_meetNode_85 : decode cX12_meetNode 85 = .ok (.iconst 1, 1) := by decide +kernel
theorem dX12_meetNode_86 : decode cX12_meetNode 86 = .ok (.goto 4, 3) := by decide +kernel
theorem dX12_meetNode_89 : decode cX12_meetNode 89 = .ok (.iconst 0, 1) := by decide +kernel
theorem dX12_meetNode_90 : decode cX12_meetNode 90 = .ok (.iadd, 1) := by decide +kernel
theorem dX12_meetNode_91 : decode cX12_meetNode 91 = .ok (.putfield 318, 3) := by decide +kernel
theorem dX12_meetNode_94 : decode cX12_meetNode 94 = .ok (.aload_n 0, 1) := by decide +kernel
theorem dX12_meetNode_95 : decode cX12_meetNode 95 = .ok (.aload_n 0, 1) := by decide +kernel
theorem dX12_meetNode_96 : decode cX12_meetNode 96 = .ok (.getfield 304, 3) := by decide +kernel
theorem dX12_meetNode_99 : decode cX12_meetNode 99 = .ok (.ifCond .ne 12, 3) := by decide +kernel
theorem dX12_meetNode_102 : decode cX12_meetNode 102 = .ok (.aload_n 0, 1) := by decide +kernel
theorem dX12_meetNode_103 : decode cX12_meetNode 103 = .ok (.getfield 318, 3) := by decide +kernel
theorem dX12_meetNode_106 : decode cX12_meetNode 106 = .ok (.bipush 60, 2) := by decide +kernel
theorem dX12_meetNode_108 : decode cX12_meetNode 108 = .ok (.if_icmp .le 7, 3) := by decide +kernel
theorem dX12_meetNode_111 : decode cX12_meetNode 111 = .ok (.iconst 1, 1) := by decide +kernel
theorem dX12_meetNode_112 : decode cX12_meetNode 112 = .ok (.goto 4, 3) := by decide +kernel
theorem dX12_meetNode_115 : decode cX12_meetNode 115 = .ok (.iconst 0, 1) := by decide +kernel
theorem dX12_meetNode_116 : decode cX12_meetNode 116 = .ok (.putfield 304, 3) := by decide +kernel
theorem dX12_meetNode_119 : decode cX12_meetNode 119 = .ok (.aload_n 0, 1) := by decide +kernel
theorem dX12_meetNode_120 : decode cX12_meetNode 120 = .ok (.getfield 304, 3) := by decide +kernel
theorem dX12_meetNode_123 : decode cX12_meetNode 123 = .ok (.ifCond .eq 5, 3) := by decide +kernel
theorem dX12_meetNode_126 : decode cX12_meetNode 126 = .ok (.iconst 0, 1) := by decide +kernel
theorem dX12_meetNode_127 : decode cX12_meetNode 127 = .ok (.ireturn, 1) := by decide +kernel
theorem dX12_meetNode_128 : decode cX12_meetNode 128 = .ok (.aload_n 0, 1) := by decide +kernel
theorem dX12_meetNode_129 : decode cX12_meetNode 129 = .ok (.getfield 78, 3) := by decide +kernel
theorem dX12_meetNode_132 : decode cX12_meetNode 132 = .ok (.aload_n 0, 1) := by decide +kernel
theorem dX12_meetNode_133 : decode cX12_meetNode 133 = .ok (.getfield 311, 3) := by decide +kernel
theorem dX12_meetNode_136 : decode cX12_meetNode 136 = .ok (.iload_n 1, 1) := by decide +kernel
theorem dX12_meetNode_137 : decode cX12_meetNode 137 = .ok (.iastore, 1) := by decide +kernel
theorem dX12_meetNode_138 : decode cX12_meetNode 138 = .ok (.aload_n 0, 1) := by decide +kernel
theorem dX12_meetNode_139 : decode cX12_meetNode 139 = .ok (.getfield 81, 3) := by decide +kernel
theorem dX12_meetNode_142 : decode cX12_meetNode 142 = .ok (.aload_n 0, 1) := by decide +kernel
theorem dX12_meetNode_143 : decode cX12_meetNode 143 = .ok (.getfield 311, 3) := by decide +kernel
theorem dX12_meetNode_146 : decode cX12_meetNode 146 = .ok (.iload_n 2, 1) := by decide +kernel
theorem dX12_meetNode_147 : decode cX12_meetNode 147 = .ok (.iastore, 1) := by decide +kernel
theorem dX12_meetNode_148 : decode cX12_meetNode 148 = .ok (.aload_n 0, 1) := by decide +kernel
theorem dX12_meetNode_149 : decode cX12_meetNode 149 = .ok (.getfield 84, 3) := by decide +kernel
theorem dX12_meetNode_152 : decode cX12_meetNode 152 = .ok (.aload_n 0, 1) := by decide +kernel
theorem dX12_meetNode_153 : decode cX12_meetNode 153 = .ok (.getfield 311, 3) := by decide +kernel
theorem dX12_meetNode_156 : decode cX12_meetNode 156 = .ok (.iload_n 3, 1) := by decide +kernel
theorem dX12_meetNode_157 : decode cX12_meetNode 157 = .ok (.bastore, 1) := by decide +kernel
theorem dX12_meetNode_158 : decode cX12_meetNode 158 = .ok (.aload_n 0, 1) := by decide +kernel
theorem dX12_meetNode_159 : decode cX12_meetNode 159 = .ok (.getfield 88, 3) := by decide +kernel
theorem dX12_meetNode_162 : decode cX12_meetNode 162 = .ok (.aload_n 0, 1) := by decide +kernel
theorem dX12_meetNode_163 : decode cX12_meetNode 163 = .ok (.getfield 311, 3) := by decide +kernel
theorem dX12_meetNode_166 : decode cX12_meetNode 166 = .ok (.iload 4, 2) := by decide +kernel
theorem dX12_meetNode_168 : decode cX12_meetNode 168 = .ok (.iastore, 1) := by decide +kernel
theorem dX12_meetNode_169 : decode cX12_meetNode 169 = .ok (.aload_n 0, 1) := by decide +kernel
theorem dX12_meetNode_170 : decode cX12_meetNode 170 = .ok (.dup, 1) := by decide +kernel
theorem dX12_meetNode_171 : decode cX12_meetNode 171 = .ok (.getfield 311, 3) := by decide +kernel
theorem dX12_meetNode_174 : decode cX12_meetNode 174 = .ok (.iconst 1, 1) := by decide +kernel
theorem dX12_meetNode_175 : decode cX12_meetNode 175 = .ok (.iadd, 1) := by decide +kernel
theorem dX12_meetNode_176 : decode cX12_meetNode 176 = .ok (.putfield 311, 3) := by decide +kernel
theorem dX12_meetNode_179 : decode cX12_meetNode 179 = .ok (.iconst 1, 1) := by decide +kernel
theorem dX12_meetNode_180 : decode cX12_meetNode 180 = .ok (.ireturn, 1) := by decide +kernel
theorem ggX12_meetBehind_X12_plain : GoodIn wsX12_meetBehind wsX12_plain := gdC (gd1 m32_15)
theorem gX12_meetBehind_X12_plain : GoodIn wsX12_meetBehind (wsV RX12 254 RX12 yX12_plain wsX12_plain) := gdC (gd4 m32_12 m32_13 m32_14 m1_5 m32_15)
theorem ggX12_meetBehind_X12_image : GoodIn wsX12_meetBehind wsX12_image := gdC (gd1 m32_18)
theorem gX12_meetBehind_X12_image : GoodIn wsX12_meetBehind (va_wsS RX12 232 yX12_image wsX12_image) := gdC (gd3 m32_16 m32_17 m1_5 m32_18)
theorem ggX12_meetBehind_X12_follow : GoodIn wsX12_meetBehind wsX12_follow := gdC (gd1 m32_21)
theorem gX12_meetBehind_X12_follow : GoodIn wsX12_meetBehind (va_wsS RX12 257 yX12_follow wsX12_follow) := gdC (gd3 m32_19 m32_20 m1_5 m32_21)
theorem ggX12_meetBehind_X12_meetNode : GoodIn wsX12_meetBehind wsX12_meetNode := gdC (gd1 m40_10)
theorem gX12_meetBehind_X12_meetNode : GoodIn wsX12_meetBehind (wsV RX12 321 RX12 yX12_meetNode wsX12_meetNode) := gdC (gd4 m40_7 m40_8 m40_9 m1_5 m40_10)
theorem ggX12_meetBehind_X12_block : GoodIn wsX12_meetBehind wsX12_block := gdC (gd1 m33_1)
theorem gX12_meetBehind_X12_block : GoodIn wsX12_meetBehind (wsV RX12 260 RX12 yX12_block wsX12_block) := gdC (gd4 m32_22 m32_23 m33_0 m1_5 m33_1)
theorem ggX12_meetBehind_X12_opened : GoodIn wsX12_meetBehind wsX12_opened := gdC (gd1 m32_11)
theorem gX12_meetBehind_X12_opened : GoodIn wsX12_meetBehind (wsV RX12 251 RX12 yX12_opened wsX12_opened) := gdC (gd4 m32_8 m32_9 m32_10 m1_5 m32_11)
theorem ggX12_meetBehind_X12_itself : GoodIn wsX12_meetBehind wsX12_itself := gdC (gd1 m32_0)
theorem gX12_meetBehind_X12_itself : GoodIn wsX12_meetBehind (wsV RX12 245 RX12 yX12_itself wsX12_itself) := gdC (gd4 m31_21 m31_22 m31_23 m1_5 m32_0)
theorem ggX12_meetBehind_X12_closedOff : GoodIn wsX12_meetBehind wsX12_closedOff := gdC (gd1 m33_5)
theorem gX12_meetBehind_X12_closedOff : GoodIn wsX12_meetBehind (wsV RX12 263 RX12 yX12_closedOff wsX12_closedOff) := gdC (gd4 m33_2 m33_3 m33_4 m1_5 m33_5)
theorem dX12_meetBehind_0 : decode cX12_meetBehind 0 = .ok (.iconst 0, 1) := by decide +kernel
theorem dX12_meetBehind_1 : decode cX12_meetBehind 1 = .ok (.istore_n 3, 1) := by decide +kernel
theorem dX12_meetBehind_2 : decode cX12_meetBehind 2 = .ok (.aload_n 0, 1) := by decide +kernel
theorem dX12_meetBehind_3 : decode cX12_meetBehind 3 = .ok (.getfield 78, 3) := by decide +kernel
theorem dX12_meetBehind_6 : decode cX12_meetBehind 6 = .ok (.iload_n 2, 1) := by decide +kernel
theorem dX12_meetBehind_7 : decode cX12_meetBehind 7 = .ok (.iaload, 1) := by decide +kernel
theorem dX12_meetBehind_8 : decode cX12_meetBehind 8 = .ok (.istore 4, 2) := by decide +kernel
theorem dX12_meetBehind_10 : decode cX12_meetBehind 10 = .ok (.aload_n 0, 1) := by decide +kernel
theorem dX12_meetBehind_11 : decode cX12_meetBehind 11 = .ok (.getfield 81, 3) := by decide +kernel
theorem dX12_meetBehind_14 : decode cX12_meetBehind 14 = .ok (.iload_n 2, 1) := by decide +kernel
theorem dX12_meetBehind_15 : decode cX12_meetBehind 15 = .ok (.iaload, 1) := by decide +kernel
theorem dX12_meetBehind_16 : decode cX12_meetBehind 16 = .ok (.istore 5, 2) := by decide +kernel
theorem dX12_meetBehind_18 : decode cX12_meetBehind 18 = .ok (.iconst 2, 1) := by decide +kernel
theorem dX12_meetBehind_19 : decode cX12_meetBehind 19 = .ok (.istore 6, 2) := by decide +kernel
theorem dX12_meetBehind_21 : decode cX12_meetBehind 21 = .ok (.iload 6, 2) := by decide +kernel
theorem dX12_meetBehind_23 : decode cX12_meetBehind 23 = .ok (.iconst 4, 1) := by decide +kernel
theorem dX12_meetBehind_24 : decode cX12_meetBehind 24 = .ok (.if_icmp .ge 63, 3) := by decide +kernel
theorem dX12_meetBehind_27 : decode cX12_meetBehind 27 = .ok (.aload_n 0, 1) := by decide +kernel
theorem dX12_meetBehind_28 : decode cX12_meetBehind 28 = .ok (.iload_n 1, 1) := by decide +kernel
theorem dX12_meetBehind_29 : decode cX12_meetBehind 29 = .ok (.iload 6, 2) := by decide +kernel
theorem dX12_meetBehind_31 : decode cX12_meetBehind 31 = .ok (.invokevirtual 254, 3) := by decide +kernel
theorem dX12_meetBehind_34 : decode cX12_meetBehind 34 = .ok (.istore 7, 2) := by decide +kernel
theorem dX12_meetBehind_36 : decode cX12_meetBehind 36 = .ok (.aload_n 0, 1) := by decide +kernel
theorem dX12_meetBehind_37 : decode cX12_meetBehind 37 = .ok (.iload 4, 2) := by decide +kernel
theorem dX12_meetBehind_39 : decode cX12_meetBehind 39 = .ok (.iload 7, 2) := by decide +kernel
theorem dX12_meetBehind_41 : decode cX12_meetBehind 41 = .ok (.invokestatic 232, 3) := by decide +kernel
theorem dX12_meetBehind_44 : decode cX12_meetBehind 44 = .ok (.iload 5, 2) := by decide +kernel
theorem dX12_meetBehind_46 : decode cX12_meetBehind 46 = .ok (.iload 7, 2) := by decide +kernel
theorem dX12_meetBehind_48 : decode cX12_meetBehind 48 = .ok (.invokestatic 257, 3) := by decide +kernel
theorem dX12_meetBehind_51 : decode cX12_meetBehind 51 = .ok (.aload_n 0, 1) := by decide +kernel
theorem dX12_meetBehind_52 : decode cX12_meetBehind 52 = .ok (.getfield 84, 3) := by decide +kernel
theorem dX12_meetBehind_55 : decode cX12_meetBehind 55 = .ok (.iload_n 2, 1) := by decide +kernel
theorem dX12_meetBehind_56 : decode cX12_meetBehind 56 = .ok (.baload, 1) := by decide +kernel
theorem dX12_meetBehind_57 : decode cX12_meetBehind 57 = .ok (.aload_n 0, 1) := by decide +kernel
theorem dX12_meetBehind_58 : decode cX12_meetBehind 58 = .ok (.getfield 88, 3) := by decide +kernel
theorem dX12_meetBehind_61 : decode cX12_meetBehind 61 = .ok (.iload_n 2, 1) := by decide +kernel
theorem dX12_meetBehind_62 : decode cX12_meetBehind 62 = .ok (.iaload, 1) := by decide +kernel
theorem dX12_meetBehind_63 : decode cX12_meetBehind 63 = .ok (.iconst 1, 1) := by decide +kernel
theorem dX12_meetBehind_64 : decode cX12_meetBehind 64 = .ok (.iadd, 1) := by decide +kernel
theorem dX12_meetBehind_65 : decode cX12_meetBehind 65 = .ok (.invokevirtual 321, 3) := by decide +kernel
theorem dX12_meetBehind_68 : decode cX12_meetBehind 68 = .ok (.ifCond .ne 7, 3) := by decide +kernel
theorem dX12_meetBehind_71 : decode cX12_meetBehind 71 = .ok (.iload_n 3, 1) := by decide +kernel
theorem dX12_meetBehind_72 : decode cX12_meetBehind 72 = .ok (.ifCond .eq 7, 3) := by decide +kernel
theorem dX12_meetBehind_75 : decode cX12_meetBehind 75 = .ok (.iconst 1, 1) := by decide +kernel
theorem dX12_meetBehind_76 : decode cX12_meetBehind 76 = .ok (.goto 4, 3) := by decide +kernel
theorem dX12_meetBehind_79 : decode cX12_meetBehind 79 = .ok (.iconst 0, 1) := by decide +kernel
theorem dX12_meetBehind_80 : decode cX12_meetBehind 80 = .ok (.istore_n 3, 1) := by decide +kernel
theorem dX12_meetBehind_81 : decode cX12_meetBehind 81 = .ok (.iinc 6 1, 3) := by decide +kernel
theorem dX12_meetBehind_84 : decode cX12_meetBehind 84 = .ok (.goto (-63), 3) := by decide +kernel
theorem dX12_meetBehind_87 : decode cX12_meetBehind 87 = .ok (.iconst 0, 1) := by decide +kernel
theorem dX12_meetBehind_88 : decode cX12_meetBehind 88 = .ok (.istore 6, 2) := by decide +kernel
theorem dX12_meetBehind_90 : decode cX12_meetBehind 90 = .ok (.iload 6, 2) := by decide +kernel
theorem dX12_meetBehind_92 : decode cX12_meetBehind 92 = .ok (.aload_n 0, 1) := by decide +kernel
theorem dX12_meetBehind_93 : decode cX12_meetBehind 93 = .ok (.getfield 301, 3) := by decide +kernel
theorem dX12_meetBehind_96 : decode cX12_meetBehind 96 = .ok (.if_icmp .ge 108, 3) := by decide +kernel
theorem dX12_meetBehind_99 : decode cX12_meetBehind 99 = .ok (.aload_n 0, 1) := by decide +kernel
theorem dX12_meetBehind_100 : decode cX12_meetBehind 100 = .ok (.getfield 304, 3) := by decide +kernel
theorem dX12_meetBehind_103 : decode cX12_meetBehind 103 = .ok (.ifCond .ne 101, 3) := by decide +kernel
theorem dX12_meetBehind_106 : decode cX12_meetBehind 106 = .ok (.iconst 0, 1) := by decide +kernel
theorem dX12_meetBehind_107 : decode cX12_meetBehind 107 = .ok (.istore 7, 2) := by decide +kernel
theorem dX12_meetBehind_109 : decode cX12_meetBehind 109 = .ok (.iload 7, 2) := by decide +kernel
theorem dX12_meetBehind_111 : decode cX12_meetBehind 111 = .ok (.iconst 4, 1) := by decide +kernel
theorem dX12_meetBehind_112 : decode cX12_meetBehind 112 = .ok (.if_icmp .ge 86, 3) := by decide +kernel
theorem dX12_meetBehind_115 : decode cX12_meetBehind 115 = .ok (.aload_n 0, 1) := by decide +kernel
theorem dX12_meetBehind_116 : decode cX12_meetBehind 116 = .ok (.iload_n 1, 1) := by decide +kernel
theorem dX12_meetBehind_117 : decode cX12_meetBehind 117 = .ok (.iload 7, 2) := by decide +kernel
theorem dX12_meetBehind_119 : decode cX12_meetBehind 119 = .ok (.iconst 2, 1) := by decide +kernel
theorem dX12_meetBehind_120 : decode cX12_meetBehind 120 = .ok (.idiv, 1) := by decide +kernel
theorem dX12_meetBehind_121 : decode cX12_meetBehind 121 = .ok (.aload_n 0, 1) := by decide +kernel
theorem dX12_meetBehind_122 : decode cX12_meetBehind 122 = .ok (.getfield 72, 3) := by decide +kernel
theorem dX12_meetBehind_125 : decode cX12_meetBehind 125 = .ok (.iload 6, 2) := by decide +kernel
theorem dX12_meetBehind_127 : decode cX12_meetBehind 127 = .ok (.iaload, 1) := by decide +kernel
theorem dX12_meetBehind_128 : decode cX12_meetBehind 128 = .ok (.iconst 4, 1) := by decide +kernel
theorem dX12_meetBehind_129 : decode cX12_meetBehind 129 = .ok (.iload 7, 2) := by decide +kernel
theorem dX12_meetBehind_131 : decode cX12_meetBehind 131 = .ok (.iconst 2, 1) := by decide +kernel
theorem dX12_meetBehind_132 : decode cX12_meetBehind 132 = .ok (.irem, 1) := by decide +kernel
theorem dX12_meetBehind_133 : decode cX12_meetBehind 133 = .ok (.iadd, 1) := by decide +kernel
theorem dX12_meetBehind_134 : decode cX12_meetBehind 134 = .ok (.invokevirtual 260, 3) := by decide +kernel
theorem dX12_meetBehind_137 : decode cX12_meetBehind 137 = .ok (.istore 8, 2) := by decide +kernel
theorem dX12_meetBehind_139 : decode cX12_meetBehind 139 = .ok (.aload_n 0, 1) := by decide +kernel
theorem dX12_meetBehind_140 : decode cX12_meetBehind 140 = .ok (.iload 4, 2) := by decide +kernel
theorem dX12_meetBehind_142 : decode cX12_meetBehind 142 = .ok (.iload 8, 2) := by decide +kernel
theorem dX12_meetBehind_144 : decode cX12_meetBehind 144 = .ok (.invokestatic 232, 3) := by decide +kernel
theorem dX12_meetBehind_147 : decode cX12_meetBehind 147 = .ok (.iload 5, 2) := by decide +kernel
theorem dX12_meetBehind_149 : decode cX12_meetBehind 149 = .ok (.iload 8, 2) := by decide +kernel
theorem dX12_meetBehind_151 : decode cX12_meetBehind 151 = .ok (.invokestatic 257, 3) := by decide +kernel
theorem dX12_meetBehind_154 : decode cX12_meetBehind 154 = .ok (.aload_n 0, 1) := by decide +kernel
theorem dX12_meetBehind_155 : decode cX12_meetBehind 155 = .ok (.getfield 84, 3) := by decide +kernel
theorem dX12_meetBehind_158 : decode cX12_meetBehind 158 = .ok (.iload_n 2, 1) := by decide +kernel
theorem dX12_meetBehind_159 : decode cX12_meetBehind 159 = .ok (.baload, 1) := by decide +kernel
theorem dX12_meetBehind_160 : decode cX12_meetBehind 160 = .ok (.aload_n 0, 1) := by decide +kernel
theorem dX12_meetBehind_161 : decode cX12_meetBehind 161 = .ok (.getfield 88, 3) := by decide +kernel
theorem dX12_meetBehind_164 : decode cX12_meetBehind 164 = .ok (.iload_n 2, 1) := by decide +kernel
theorem dX12_meetBehind_165 : decode cX12_meetBehind 165 = .ok (.iaload, 1) := by decide +kernel
theorem dX12_meetBehind_166 : decode cX12_meetBehind 166 = .ok (.aload_n 0, 1) := by decide +kernel
theorem dX12_meetBehind_167 : decode cX12_meetBehind 167 = .ok (.getfield 75, 3) := by decide +kernel
theorem dX12_meetBehind_170 : decode cX12_meetBehind 170 = .ok (.iload 6, 2) := by decide +kernel
theorem dX12_meetBehind_172 : decode cX12_meetBehind 172 = .ok (.iaload, 1) := by decide +kernel
theorem dX12_meetBehind_173 : decode cX12_meetBehind 173 = .ok (.iadd, 1) := by decide +kernel
theorem dX12_meetBehind_174 : decode cX12_meetBehind 174 = .ok (.iconst 2, 1) := by decide +kernel
theorem dX12_meetBehind_175 : decode cX12_meetBehind 175 = .ok (.iadd, 1) := by decide +kernel
theorem dX12_meetBehind_176 : decode cX12_meetBehind 176 = .ok (.invokevirtual 321, 3) := by decide +kernel
theorem dX12_meetBehind_179 : decode cX12_meetBehind 179 = .ok (.ifCond .ne 7, 3) := by decide +kernel
theorem dX12_meetBehind_182 : decode cX12_meetBehind 182 = .ok (.iload_n 3, 1) := by decide +kernel
theorem dX12_meetBehind_183 : decode cX12_meetBehind 183 = .ok (.ifCond .eq 7, 3) := by decide +kernel
theorem dX12_meetBehind_186 : decode cX12_meetBehind 186 = .ok (.iconst 1, 1) := by decide +kernel
theorem dX12_meetBehind_187 : decode cX12_meetBehind 187 = .ok (.goto 4, 3) := by decide +kernel
theorem dX12_meetBehind_190 : decode cX12_meetBehind 190 = .ok (.iconst 0, 1) := by decide +kernel
theorem dX12_meetBehind_191 : decode cX12_meetBehind 191 = .ok (.istore_n 3, 1) := by decide +kernel
theorem dX12_meetBehind_192 : decode cX12_meetBehind 192 = .ok (.iinc 7 1, 3) := by decide +kernel
theorem dX12_meetBehind_195 : decode cX12_meetBehind 195 = .ok (.goto (-86), 3) := by decide +kernel
theorem dX12_meetBehind_198 : decode cX12_meetBehind 198 = .ok (.iinc 6 1, 3) := by decide +kernel
theorem dX12_meetBehind_201 : decode cX12_meetBehind 201 = .ok (.goto (-111), 3) := by decide +kernel
theorem dX12_meetBehind_204 : decode cX12_meetBehind 204 = .ok (.iconst 0, 1) := by decide +kernel
theorem dX12_meetBehind_205 : decode cX12_meetBehind 205 = .ok (.istore 6, 2) := by decide +kernel
theorem dX12_meetBehind_207 : decode cX12_meetBehind 207 = .ok (.iload 6, 2) := by decide +kernel
theorem dX12_meetBehind_209 : decode cX12_meetBehind 209 = .ok (.iconst 2, 1) := by decide +kernel
theorem dX12_meetBehind_210 : decode cX12_meetBehind 210 = .ok (.if_icmp .ge 100, 3) := by decide +kernel
theorem dX12_meetBehind_213 : decode cX12_meetBehind 213 = .ok (.aload_n 0, 1) := by decide +kernel
theorem dX12_meetBehind_214 : decode cX12_meetBehind 214 = .ok (.aload_n 0, 1) := by decide +kernel
theorem dX12_meetBehind_215 : decode cX12_meetBehind 215 = .ok (.iload_n 1, 1) := by decide +kernel
theorem dX12_meetBehind_216 : decode cX12_meetBehind 216 = .ok (.iload 6, 2) := by decide +kernel
theorem dX12_meetBehind_218 : decode cX12_meetBehind 218 = .ok (.iload 4, 2) := by decide +kernel
theorem dX12_meetBehind_220 : decode cX12_meetBehind 220 = .ok (.invokevirtual 251, 3) := by decide +kernel
theorem dX12_meetBehind_223 : decode cX12_meetBehind 223 = .ok (.aload_n 0, 1) := by decide +kernel
theorem dX12_meetBehind_224 : decode cX12_meetBehind 224 = .ok (.iload_n 1, 1) := by decide +kernel
theorem dX12_meetBehind_225 : decode cX12_meetBehind 225 = .ok (.invokevirtual 245, 3) := by decide +kernel
theorem dX12_meetBehind_228 : decode cX12_meetBehind 228 = .ok (.iconst 1, 1) := by decide +kernel
theorem dX12_meetBehind_229 : decode cX12_meetBehind 229 = .ok (.aload_n 0, 1) := by decide +kernel
theorem dX12_meetBehind_230 : decode cX12_meetBehind 230 = .ok (.getfield 88, 3) := by decide +kernel
theorem dX12_meetBehind_233 : decode cX12_meetBehind 233 = .ok (.iload_n 2, 1) := by decide +kernel
theorem dX12_meetBehind_234 : decode cX12_meetBehind 234 = .ok (.iaload, 1) := by decide +kernel
theorem dX12_meetBehind_235 : decode cX12_meetBehind 235 = .ok (.iconst 1, 1) := by decide +kernel
theorem dX12_meetBehind_236 : decode cX12_meetBehind 236 = .ok (.iadd, 1) := by decide +kernel
theorem dX12_meetBehind_237 : decode cX12_meetBehind 237 = .ok (.invokevirtual 321, 3) := by decide +kernel
theorem dX12_meetBehind_240 : decode cX12_meetBehind 240 = .ok (.ifCond .ne 7, 3) := by decide +kernel
theorem dX12_meetBehind_243 : decode cX12_meetBehind 243 = .ok (.iload_n 3, 1) := by decide +kernel
theorem dX12_meetBehind_244 : decode cX12_meetBehind 244 = .ok (.ifCond .eq 7, 3) := by decide +kernel
theorem dX12_meetBehind_247 : decode cX12_meetBehind 247 = .ok (.iconst 1, 1) := by decide +kernel
theorem dX12_meetBehind_248 : decode cX12_meetBehind 248 = .ok (.goto 4, 3) := by decide +kernel
theorem dX12_meetBehind_251 : decode cX12_meetBehind 251 = .ok (.iconst 0, 1) := by decide +kernel
theorem dX12_meetBehind_252 : decode cX12_meetBehind 252 = .ok (.istore_n 3, 1) := by decide +kernel
theorem dX12_meetBehind_253 : decode cX12_meetBehind 253 = .ok (.aload_n 0, 1) := by decide +kernel
theorem dX12_meetBehind_254 : decode cX12_meetBehind 254 = .ok (.getfield 84, 3) := by decide +kernel
theorem dX12_meetBehind_257 : decode cX12_meetBehind 257 = .ok (.iload_n 2, 1) := by decide +kernel
theorem dX12_meetBehind_258 : decode cX12_meetBehind 258 = .ok (.baload, 1) := by decide +kernel
theorem dX12_meetBehind_259 : decode cX12_meetBehind 259 = .ok (.ifCond .ne 45, 3) := by decide +kernel
theorem dX12_meetBehind_262 : decode cX12_meetBehind 262 = .ok (.aload_n 0, 1) := by decide +kernel
theorem dX12_meetBehind_263 : decode cX12_meetBehind 263 = .ok (.aload_n 0, 1) := by decide +kernel
theorem dX12_meetBehind_264 : decode cX12_meetBehind 264 = .ok (.iload_n 1, 1) := by decide +kernel
theorem dX12_meetBehind_265 : decode cX12_meetBehind 265 = .ok (.iconst 4, 1) := by decide +kernel
theorem dX12_meetBehind_266 : decode cX12_meetBehind 266 = .ok (.iload 6, 2) := by decide +kernel
theorem dX12_meetBehind_268 : decode cX12_meetBehind 268 = .ok (.iadd, 1) := by decide +kernel
theorem dX12_meetBehind_269 : decode cX12_meetBehind 269 = .ok (.iload 4, 2) := by decide +kernel
theorem dX12_meetBehind_271 : decode cX12_meetBehind 271 = .ok (.invokevirtual 263, 3) := by decide +kernel
theorem dX12_meetBehind_274 : decode cX12_meetBehind 274 = .ok (.aload_n 0, 1) := by decide +kernel
theorem dX12_meetBehind_275 : decode cX12_meetBehind 275 = .ok (.iload_n 1, 1) := by decide +kernel
theorem dX12_meetBehind_276 : decode cX12_meetBehind 276 = .ok (.invokevirtual 245, 3) := by decide +kernel
theorem dX12_meetBehind_279 : decode cX12_meetBehind 279 = .ok (.iconst 0, 1) := by decide +kernel
theorem dX12_meetBehind_280 : decode cX12_meetBehind 280 = .ok (.aload_n 0, 1) := by decide +kernel
theorem dX12_meetBehind_281 : decode cX12_meetBehind 281 = .ok (.getfield 88, 3) := by decide +kernel
theorem dX12_meetBehind_284 : decode cX12_meetBehind 284 = .ok (.iload_n 2, 1) := by decide +kernel
theorem dX12_meetBehind_285 : decode cX12_meetBehind 285 = .ok (.iaload, 1) := by decide +kernel
theorem dX12_meetBehind_286 : decode cX12_meetBehind 286 = .ok (.iconst 1, 1) := by decide +kernel
theorem dX12_meetBehind_287 : decode cX12_meetBehind 287 = .ok (.iadd, 1) := by decide +kernel
theorem dX12_meetBehind_288 : decode cX12_meetBehind 288 = .ok (.invokevirtual 321, 3) := by decide +kernel
theorem dX12_meetBehind_291 : decode cX12_meetBehind 291 = .ok (.ifCond .ne 7, 3) := by decide +kernel
theorem dX12_meetBehind_294 : decode cX12_meetBehind 294 = .ok (.iload_n 3, 1) := by decide +kernel
theorem dX12_meetBehind_295 : decode cX12_meetBehind 295 = .ok (.ifCond .eq 7, 3) := by decide +kernel
theorem dX12_meetBehind_298 : decode cX12_meetBehind 298 = .ok (.iconst 1, 1) := by decide +kernel
theorem dX12_meetBehind_299 : decode cX12_meetBehind 299 = .ok (.goto 4, 3) := by decide +kernel
theorem dX12_meetBehind_302 : decode cX12_meetBehind 302 = .ok (.iconst 0, 1) := by decide +kernel
theorem dX12_meetBehind_303 : decode cX12_meetBehind 303 = .ok (.istore_n 3, 1) := by decide +kernel
theorem dX12_meetBehind_304 : decode cX12_meetBehind 304 = .ok (.iinc 6 1, 3) := by decide +kernel
theorem dX12_meetBehind_307 : decode cX12_meetBehind 307 = .ok (.goto (-100), 3) := by decide +kernel
theorem dX12_meetBehind_310 : decode cX12_meetBehind 310 = .ok (.iload_n 3, 1) := by decide +kernel
theorem dX12_meetBehind_311 : decode cX12_meetBehind 311 = .ok (.ireturn, 1) := by decide +kernel
theorem ggX12_findPlaces_X12_findWholes : GoodIn wsX12_findPlaces wsX12_findWholes := gdC (gd1 m40_1)
theorem gX12_findPlaces_X12_findWholes : GoodIn wsX12_findPlaces (wsV RX12 325 RX12 yX12_findWholes wsX12_findWholes) := gdC (gd4 m39_22 m39_23 m40_0 m1_5 m40_1)
theorem ggX12_findPlaces_X12_begun : GoodIn wsX12_findPlaces wsX12_begun := gdC (gd1 m31_20)
theorem gX12_findPlaces_X12_begun : GoodIn wsX12_findPlaces (va_wsS RX12 239 yX12_begun wsX12_begun) := gdC (gd3 m31_18 m31_19 m1_5 m31_20)
theorem ggX12_findPlaces_X12_itself : GoodIn wsX12_findPlaces wsX12_itself := gdC (gd1 m32_0)
theorem gX12_findPlaces_X12_itself : GoodIn wsX12_findPlaces (wsV RX12 245 RX12 yX12_itself wsX12_itself) := gdC (gd4 m31_21 m31_22 m31_23 m1_5 m32_0)
theorem ggX12_findPlaces_X12_meetNode : GoodIn wsX12_findPlaces wsX12_meetNode := gdC (gd1 m40_10)
theorem gX12_findPlaces_X12_meetNode : GoodIn wsX12_findPlaces (wsV RX12 321 RX12 yX12_meetNode wsX12_meetNode) := gdC (gd4 m40_7 m40_8 m40_9 m1_5 m40_10)
theorem ggX12_findPlaces_X12_meetBehind : GoodIn wsX12_findPlaces wsX12_meetBehind := gdC (gd1 m40_18)
theorem gX12_findPlaces_X12_meetBehind : GoodIn wsX12_findPlaces (wsV RX12 328 RX12 yX12_meetBehind wsX12_meetBehind) := gdC (gd4 m40_15 m40_16 m40_17 m1_5 m40_18)
theorem dX12_findPlaces_0 : decode cX12_findPlaces 0 = .ok (.aload_n 0, 1) := by decide +kernel
theorem dX12_findPlaces_1 : decode cX12_findPlaces 1 = .ok (.getfield 68, 3) := by decide +kernel
theorem dX12_findPlaces_4 : decode cX12_findPlaces 4 = .ok (.iload_n 1, 1) := by decide +kernel
theorem dX12_findPlaces_5 : decode cX12_findPlaces 5 = .ok (.if_icmp .ne 4, 3) := by decide +kernel
theorem dX12_findPlaces_8 : decode cX12_findPlaces 8 = .ok (.return_, 1) := by decide +kernel
theorem dX12_findPlaces_9 : decode cX12_findPlaces 9 = .ok (.aload_n 0, 1) := by decide +kernel
theorem dX12_findPlaces_10 : decode cX12_findPlaces 10 = .ok (.iload_n 1, 1) := by decide +kernel
theorem dX12_findPlaces_11 : decode cX12_findPlaces 11 = .ok (.putfield 68, 3) := by decide +kernel
theorem dX12_findPlaces_14 : decode cX12_findPlaces 14 = .ok (.aload_n 0, 1) := by decide +kernel
theorem dX12_findPlaces_15 : decode cX12_findPlaces 15 = .ok (.iconst 0, 1) := by decide +kernel
theorem dX12_findPlaces_16 : decode cX12_findPlaces 16 = .ok (.putfield 304, 3) := by decide +kernel
theorem dX12_findPlaces_19 : decode cX12_findPlaces 19 = .ok (.aload_n 0, 1) := by decide +kernel
theorem dX12_findPlaces_20 : decode cX12_findPlaces 20 = .ok (.iconst 0, 1) := by decide +kernel
theorem dX12_findPlaces_21 : decode cX12_findPlaces 21 = .ok (.putfield 311, 3) := by decide +kernel
theorem dX12_findPlaces_24 : decode cX12_findPlaces 24 = .ok (.aload_n 0, 1) := by decide +kernel
theorem dX12_findPlaces_25 : decode cX12_findPlaces 25 = .ok (.iconst 0, 1) := by decide +kernel
theorem dX12_findPlaces_26 : decode cX12_findPlaces 26 = .ok (.putfield 318, 3) := by decide +kernel
theorem dX12_findPlaces_29 : decode cX12_findPlaces 29 = .ok (.aload_n 0, 1) := by decide +kernel
theorem dX12_findPlaces_30 : decode cX12_findPlaces 30 = .ok (.iload_n 1, 1) := by decide +kernel
theorem dX12_findPlaces_31 : decode cX12_findPlaces 31 = .ok (.invokevirtual 325, 3) := by decide +kernel
theorem dX12_findPlaces_34 : decode cX12_findPlaces 34 = .ok (.aload_n 0, 1) := by decide +kernel
theorem dX12_findPlaces_35 : decode cX12_findPlaces 35 = .ok (.iload_n 1, 1) := by decide +kernel
theorem dX12_findPlaces_36 : decode cX12_findPlaces 36 = .ok (.invokestatic 239, 3) := by decide +kernel
theorem dX12_findPlaces_39 : decode cX12_findPlaces 39 = .ok (.aload_n 0, 1) := by decide +kernel
theorem dX12_findPlaces_40 : decode cX12_findPlaces 40 = .ok (.iload_n 1, 1) := by decide +kernel
theorem dX12_findPlaces_41 : decode cX12_findPlaces 41 = .ok (.invokevirtual 245, 3) := by decide +kernel
theorem dX12_findPlaces_44 : decode cX12_findPlaces 44 = .ok (.iconst 0, 1) := by decide +kernel
theorem dX12_findPlaces_45 : decode cX12_findPlaces 45 = .ok (.iconst 0, 1) := by decide +kernel
theorem dX12_findPlaces_46 : decode cX12_findPlaces 46 = .ok (.invokevirtual 321, 3) := by decide +kernel
theorem dX12_findPlaces_49 : decode cX12_findPlaces 49 = .ok (.pop, 1) := by decide +kernel
theorem dX12_findPlaces_50 : decode cX12_findPlaces 50 = .ok (.iconst 1, 1) := by decide +kernel
theorem dX12_findPlaces_51 : decode cX12_findPlaces 51 = .ok (.istore_n 2, 1) := by decide +kernel
theorem dX12_findPlaces_52 : decode cX12_findPlaces 52 = .ok (.iload_n 2, 1) := by decide +kernel
theorem dX12_findPlaces_53 : decode cX12_findPlaces 53 = .ok (.ifCond .eq 57, 3) := by decide +kernel
theorem dX12_findPlaces_56 : decode cX12_findPlaces 56 = .ok (.aload_n 0, 1) := by decide +kernel
theorem dX12_findPlaces_57 : decode cX12_findPlaces 57 = .ok (.getfield 304, 3) := by decide +kernel
theorem dX12_findPlaces_60 : decode cX12_findPlaces 60 = .ok (.ifCond .ne 50, 3) := by decide +kernel
theorem dX12_findPlaces_63 : decode cX12_findPlaces 63 = .ok (.iconst 0, 1) := by decide +kernel
theorem dX12_findPlaces_64 : decode cX12_findPlaces 64 = .ok (.istore_n 2, 1) := by decide +kernel
theorem dX12_findPlaces_65 : decode cX12_findPlaces 65 = .ok (.iconst 0, 1) := by decide +kernel
theorem dX12_findPlaces_66 : decode cX12_findPlaces 66 = .ok (.istore_n 3, 1) := by decide +kernel
theorem dX12_findPlaces_67 : decode cX12_findPlaces 67 = .ok (.iload_n 3, 1) := by decide +kernel
theorem dX12_findPlaces_68 : decode cX12_findPlaces 68 = .ok (.aload_n 0, 1) := by decide +kernel
theorem dX12_findPlaces_69 : decode cX12_findPlaces 69 = .ok (.getfield 311, 3) := by decide +kernel
theorem dX12_findPlaces_72 : decode cX12_findPlaces 72 = .ok (.if_icmp .ge 35, 3) := by decide +kernel
theorem dX12_findPlaces_75 : decode cX12_findPlaces 75 = .ok (.aload_n 0, 1) := by decide +kernel
theorem dX12_findPlaces_76 : decode cX12_findPlaces 76 = .ok (.getfield 304, 3) := by decide +kernel
theorem dX12_findPlaces_79 : decode cX12_findPlaces 79 = .ok (.ifCond .ne 28, 3) := by decide +kernel
theorem dX12_findPlaces_82 : decode cX12_findPlaces 82 = .ok (.aload_n 0, 1) := by decide +kernel
theorem dX12_findPlaces_83 : decode cX12_findPlaces 83 = .ok (.iload_n 1, 1) := by decide +kernel
theorem dX12_findPlaces_84 : decode cX12_findPlaces 84 = .ok (.iload_n 3, 1) := by decide +kernel
theorem dX12_findPlaces_85 : decode cX12_findPlaces 85 = .ok (.invokevirtual 328, 3) := by decide +kernel
theorem dX12_findPlaces_88 : decode cX12_findPlaces 88 = .ok (.ifCond .ne 7, 3) := by decide +kernel
theorem dX12_findPlaces_91 : decode cX12_findPlaces 91 = .ok (.iload_n 2, 1) := by decide +kernel
theorem dX12_findPlaces_92 : decode cX12_findPlaces 92 = .ok (.ifCond .eq 7, 3) := by decide +kernel
theorem dX12_findPlaces_95 : decode cX12_findPlaces 95 = .ok (.iconst 1, 1) := by decide +kernel
theorem dX12_findPlaces_96 : decode cX12_findPlaces 96 = .ok (.goto 4, 3) := by decide +kernel
theorem dX12_findPlaces_99 : decode cX12_findPlaces 99 = .ok (.iconst 0, 1) := by decide +kernel
theorem dX12_findPlaces_100 : decode cX12_findPlaces 100 = .ok (.istore_n 2, 1) := by decide +kernel
theorem dX12_findPlaces_101 : decode cX12_findPlaces 101 = .ok (.iinc 3 1, 3) := by decide +kernel
theorem dX12_findPlaces_104 : decode cX12_findPlaces 104 = .ok (.goto (-37), 3) := by decide +kernel
theorem dX12_findPlaces_107 : decode cX12_findPlaces 107 = .ok (.goto (-55), 3) := by decide +kernel
theorem dX12_findPlaces_110 : decode cX12_findPlaces 110 = .ok (.return_, 1) := by decide +kernel
theorem ggX12_places_X12_in : GoodIn wsX12_places wsX12_in := gdC (gd1 m11_5)
theorem gX12_places_X12_in : GoodIn wsX12_places (va_wsS RX12 112 yX12_in wsX12_in) := gdC (gd3 m11_3 m11_4 m1_5 m11_5)
theorem ggX12_places_X12_findPlaces : GoodIn wsX12_places wsX12_findPlaces := gdC (gd1 m39_20)
theorem gX12_places_X12_findPlaces : GoodIn wsX12_places (wsV RX12 331 RX12 yX12_findPlaces wsX12_findPlaces) := gdC (gd4 m39_17 m39_18 m39_19 m1_5 m39_20)
theorem dX12_places_0 : decode cX12_places 0 = .ok (.iload_n 1, 1) := by decide +kernel
theorem dX12_places_1 : decode cX12_places 1 = .ok (.iconst 0, 1) := by decide +kernel
theorem dX12_places_2 : decode cX12_places 2 = .ok (.iconst 2, 1) := by decide +kernel
theorem dX12_places_3 : decode cX12_places 3 = .ok (.invokestatic 112, 3) := by decide +kernel
theorem dX12_places_6 : decode cX12_places 6 = .ok (.ifCond .ne 6, 3) := by decide +kernel
theorem dX12_places_9 : decode cX12_places 9 = .ok (.bipush (-2), 2) := by decide +kernel
theorem dX12_places_11 : decode cX12_places 11 = .ok (.ireturn, 1) := by decide +kernel
theorem dX12_places_12 : decode cX12_places 12 = .ok (.aload_n 0, 1) := by decide +kernel
theorem dX12_places_13 : decode cX12_places 13 = .ok (.iload_n 1, 1) := by decide +kernel
theorem dX12_places_14 : decode cX12_places 14 = .ok (.invokevirtual 331, 3) := by decide +kernel
theorem dX12_places_17 : decode cX12_places 17 = .ok (.aload_n 0, 1) := by decide +kernel
theorem dX12_places_18 : decode cX12_places 18 = .ok (.getfield 304, 3) := by decide +kernel
theorem dX12_places_21 : decode cX12_places 21 = .ok (.ifCond .eq 8, 3) := by decide +kernel
theorem dX12_places_24 : decode cX12_places 24 = .ok (.bipush (-6), 2) := by decide +kernel
theorem dX12_places_26 : decode cX12_places 26 = .ok (.goto 7, 3) := by decide +kernel
theorem dX12_places_29 : decode cX12_places 29 = .ok (.aload_n 0, 1) := by decide +kernel
theorem dX12_places_30 : decode cX12_places 30 = .ok (.getfield 318, 3) := by decide +kernel
theorem dX12_places_33 : decode cX12_places 33 = .ok (.ireturn, 1) := by decide +kernel
theorem ggX12_alike_X12_in : GoodIn wsX12_alike wsX12_in := gdC (gd1 m11_5)
theorem gX12_alike_X12_in : GoodIn wsX12_alike (va_wsS RX12 112 yX12_in wsX12_in) := gdC (gd3 m11_3 m11_4 m1_5 m11_5)
theorem ggX12_alike_X12_goRow : GoodIn wsX12_alike wsX12_goRow := gdC (gd1 m31_11)
theorem gX12_alike_X12_goRow : GoodIn wsX12_alike (wsV RX12 295 RX12 yX12_goRow wsX12_goRow) := gdC (gd4 m31_8 m31_9 m31_10 m1_5 m31_11)
theorem dX12_alike_0 : decode cX12_alike 0 = .ok (.iload_n 1, 1) := by decide +kernel
theorem dX12_alike_1 : decode cX12_alike 1 = .ok (.iconst 0, 1) := by decide +kernel
theorem dX12_alike_2 : decode cX12_alike 2 = .ok (.iconst 2, 1) := by decide +kernel
theorem dX12_alike_3 : decode cX12_alike 3 = .ok (.invokestatic 112, 3) := by decide +kernel
theorem dX12_alike_6 : decode cX12_alike 6 = .ok (.ifCond .ne 6, 3) := by decide +kernel
theorem dX12_alike_9 : decode cX12_alike 9 = .ok (.bipush (-2), 2) := by decide +kernel
theorem dX12_alike_11 : decode cX12_alike 11 = .ok (.ireturn, 1) := by decide +kernel
theorem dX12_alike_12 : decode cX12_alike 12 = .ok (.iload_n 2, 1) := by decide +kernel
theorem dX12_alike_13 : decode cX12_alike 13 = .ok (.iconst 0, 1) := by decide +kernel
theorem dX12_alike_14 : decode cX12_alike 14 = .ok (.aload_n 0, 1) := by decide +kernel
theorem dX12_alike_15 : decode cX12_alike 15 = .ok (.getfield 219, 3) := by decide +kernel
theorem dX12_alike_18 : decode cX12_alike 18 = .ok (.invokestatic 112, 3) := by decide +kernel
theorem dX12_alike_21 : decode cX12_alike 21 = .ok (.ifCond .eq 15, 3) := by decide +kernel
theorem dX12_alike_24 : decode cX12_alike 24 = .ok (.iload_n 3, 1) := by decide +kernel
theorem dX12_alike_25 : decode cX12_alike 25 = .ok (.iconst 0, 1) := by decide +kernel
theorem dX12_alike_26 : decode cX12_alike 26 = .ok (.aload_n 0, 1) := by decide +kernel
theorem dX12_alike_27 : decode cX12_alike 27 = .ok (.getfield 219, 3) := by decide +kernel
theorem dX12_alike_30 : decode cX12_alike 30 = .ok (.invokestatic 112, 3) := by decide +kernel
theorem dX12_alike_33 : decode cX12_alike 33 = .ok (.ifCond .ne 6, 3) := by decide +kernel
theorem dX12_alike_36 : decode cX12_alike 36 = .ok (.bipush (-3), 2) := by decide +kernel
theorem dX12_alike_38 : decode cX12_alike 38 = .ok (.ireturn, 1) := by decide +kernel
theorem dX12_alike_39 : decode cX12_alike 39 = .ok (.aload_n 0, 1) := by decide +kernel
theorem dX12_alike_40 : decode cX12_alike 40 = .ok (.iload_n 1, 1) := by decide +kernel
theorem dX12_alike_41 : decode cX12_alike 41 = .ok (.iload_n 2, 1) := by decide +kernel
theorem dX12_alike_42 : decode cX12_alike 42 = .ok (.invokevirtual 295, 3) := by decide +kernel
theorem dX12_alike_45 : decode cX12_alike 45 = .ok (.aload_n 0, 1) := by decide +kernel
theorem dX12_alike_46 : decode cX12_alike 46 = .ok (.getfield 242, 3) := by decide +kernel
theorem dX12_alike_49 : decode cX12_alike 49 = .ok (.istore 4, 2) := by decide +kernel
theorem dX12_alike_51 : decode cX12_alike 51 = .ok (.aload_n 0, 1) := by decide +kernel
theorem dX12_alike_52 : decode cX12_alike 52 = .ok (.getfield 248, 3) := by decide +kernel
theorem dX12_alike_55 : decode cX12_alike 55 = .ok (.istore 5, 2) := by decide +kernel
theorem dX12_alike_57 : decode cX12_alike 57 = .ok (.aload_n 0, 1) := by decide +kernel
theorem dX12_alike_58 : decode cX12_alike 58 = .ok (.iload_n 1, 1) := by decide +kernel
theorem dX12_alike_59 : decode cX12_alike 59 = .ok (.iload_n 3, 1) := by decide +kernel
theorem dX12_alike_60 : decode cX12_alike 60 = .ok (.invokevirtual 295, 3) := by decide +kernel
theorem dX12_alike_63 : decode cX12_alike 63 = .ok (.aload_n 0, 1) := by decide +kernel
theorem dX12_alike_64 : decode cX12_alike 64 = .ok (.getfield 242, 3) := by decide +kernel
theorem dX12_alike_67 : decode cX12_alike 67 = .ok (.iload 4, 2) := by decide +kernel
theorem dX12_alike_69 : decode cX12_alike 69 = .ok (.if_icmp .ne 16, 3) := by decide +kernel
theorem dX12_alike_72 : decode cX12_alike 72 = .ok (.aload_n 0, 1) := by decide +kernel
theorem dX12_alike_73 : decode cX12_alike 73 = .ok (.getfield 248, 3) := by decide +kernel
theorem dX12_alike_76 : decode cX12_alike 76 = .ok (.iload 5, 2) := by decide +kernel
theorem dX12_alike_78 : decode cX12_alike 78 = .ok (.if_icmp .ne 7, 3) := by decide +kernel
theorem dX12_alike_81 : decode cX12_alike 81 = .ok (.iconst 1, 1) := by decide +kernel
theorem dX12_alike_82 : decode cX12_alike 82 = .ok (.goto 4, 3) := by decide +kernel
theorem dX12_alike_85 : decode cX12_alike 85 = .ok (.iconst 0, 1) := by decide +kernel
theorem dX12_alike_86 : decode cX12_alike 86 = .ok (.ireturn, 1) := by decide +kernel
theorem ggX12_isSought_X12_doesTake : GoodIn wsX12_isSought wsX12_doesTake := gdC (gd1 m33_9)
theorem gX12_isSought_X12_doesTake : GoodIn wsX12_isSought (wsV RX12 298 RX12 yX12_doesTake wsX12_doesTake) := gdC (gd4 m33_6 m33_7 m33_8 m1_5 m33_9)
theorem dX12_isSought_0 : decode cX12_isSought 0 = .ok (.aload_n 0, 1) := by decide +kernel
theorem dX12_isSought_1 : decode cX12_isSought 1 = .ok (.iconst 0, 1) := by decide +kernel
theorem dX12_isSought_2 : decode cX12_isSought 2 = .ok (.iload_n 1, 1) := by decide +kernel
theorem dX12_isSought_3 : decode cX12_isSought 3 = .ok (.invokevirtual 298, 3) := by decide +kernel
theorem dX12_isSought_6 : decode cX12_isSought 6 = .ok (.istore_n 3, 1) := by decide +kernel
theorem dX12_isSought_7 : decode cX12_isSought 7 = .ok (.aload_n 0, 1) := by decide +kernel
theorem dX12_isSought_8 : decode cX12_isSought 8 = .ok (.iconst 1, 1) := by decide +kernel
theorem dX12_isSought_9 : decode cX12_isSought 9 = .ok (.iload_n 1, 1) := by decide +kernel
theorem dX12_isSought_10 : decode cX12_isSought 10 = .ok (.invokevirtual 298, 3) := by decide +kernel
theorem dX12_isSought_13 : decode cX12_isSought 13 = .ok (.istore 4, 2) := by decide +kernel
theorem dX12_isSought_15 : decode cX12_isSought 15 = .ok (.iload_n 2, 1) := by decide +kernel
theorem dX12_isSought_16 : decode cX12_isSought 16 = .ok (.ifCond .ne 7, 3) := by decide +kernel
theorem dX12_isSought_19 : decode cX12_isSought 19 = .ok (.iload_n 3, 1) := by decide +kernel
theorem dX12_isSought_20 : decode cX12_isSought 20 = .ok (.goto 46, 3) := by decide +kernel
theorem dX12_isSought_23 : decode cX12_isSought 23 = .ok (.iload_n 2, 1) := by decide +kernel
theorem dX12_isSought_24 : decode cX12_isSought 24 = .ok (.iconst 1, 1) := by decide +kernel
theorem dX12_isSought_25 : decode cX12_isSought 25 = .ok (.if_icmp .ne 8, 3) := by decide +kernel
theorem dX12_isSought_28 : decode cX12_isSought 28 = .ok (.iload 4, 2) := by decide +kernel
theorem dX12_isSought_30 : decode cX12_isSought 30 = .ok (.goto 36, 3) := by decide +kernel
theorem dX12_isSought_33 : decode cX12_isSought 33 = .ok (.iload_n 2, 1) := by decide +kernel
theorem dX12_isSought_34 : decode cX12_isSought 34 = .ok (.iconst 2, 1) := by decide +kernel
theorem dX12_isSought_35 : decode cX12_isSought 35 = .ok (.if_icmp .ne 20, 3) := by decide +kernel
theorem dX12_isSought_38 : decode cX12_isSought 38 = .ok (.iload_n 3, 1) := by decide +kernel
theorem dX12_isSought_39 : decode cX12_isSought 39 = .ok (.ifCond .eq 12, 3) := by decide +kernel
theorem dX12_isSought_42 : decode cX12_isSought 42 = .ok (.iload 4, 2) := by decide +kernel
theorem dX12_isSought_44 : decode cX12_isSought 44 = .ok (.ifCond .eq 7, 3) := by decide +kernel
theorem dX12_isSought_47 : decode cX12_isSought 47 = .ok (.iconst 1, 1) := by decide +kernel
theorem dX12_isSought_48 : decode cX12_isSought 48 = .ok (.goto 18, 3) := by decide +kernel
theorem dX12_isSought_51 : decode cX12_isSought 51 = .ok (.iconst 0, 1) := by decide +kernel
theorem dX12_isSought_52 : decode cX12_isSought 52 = .ok (.goto 14, 3) := by decide +kernel
theorem dX12_isSought_55 : decode cX12_isSought 55 = .ok (.iload_n 3, 1) := by decide +kernel
theorem dX12_isSought_56 : decode cX12_isSought 56 = .ok (.iload 4, 2) := by decide +kernel
theorem dX12_isSought_58 : decode cX12_isSought 58 = .ok (.if_icmp .eq 7, 3) := by decide +kernel
theorem dX12_isSought_61 : decode cX12_isSought 61 = .ok (.iconst 1, 1) := by decide +kernel
theorem dX12_isSought_62 : decode cX12_isSought 62 = .ok (.goto 4, 3) := by decide +kernel
theorem dX12_isSought_65 : decode cX12_isSought 65 = .ok (.iconst 0, 1) := by decide +kernel
theorem dX12_isSought_66 : decode cX12_isSought 66 = .ok (.ireturn, 1) := by decide +kernel
theorem ggX12_shortestOf_X12_isSought : GoodIn wsX12_shortestOf wsX12_isSought := gdC (gd1 m45_2)
theorem gX12_shortestOf_X12_isSought : GoodIn wsX12_shortestOf (wsV RX12 334 RX12 yX12_isSought wsX12_isSought) := gdC (gd4 m44_23 m45_0 m45_1 m1_5 m45_2)
theorem dX12_shortestOf_0 : decode cX12_shortestOf 0 = .ok (.iconst (-1), 1) := by decide +kernel
theorem dX12_shortestOf_1 : decode cX12_shortestOf 1 = .ok (.istore_n 2, 1) := by decide +kernel
theorem dX12_shortestOf_2 : decode cX12_shortestOf 2 = .ok (.iconst 0, 1) := by decide +kernel
theorem dX12_shortestOf_3 : decode cX12_shortestOf 3 = .ok (.istore_n 3, 1) := by decide +kernel
theorem dX12_shortestOf_4 : decode cX12_shortestOf 4 = .ok (.iload_n 3, 1) := by decide +kernel
theorem dX12_shortestOf_5 : decode cX12_shortestOf 5 = .ok (.aload_n 0, 1) := by decide +kernel
theorem dX12_shortestOf_6 : decode cX12_shortestOf 6 = .ok (.getfield 311, 3) := by decide +kernel
theorem dX12_shortestOf_9 : decode cX12_shortestOf 9 = .ok (.if_icmp .ge 49, 3) := by decide +kernel
theorem dX12_shortestOf_12 : decode cX12_shortestOf 12 = .ok (.aload_n 0, 1) := by decide +kernel
theorem dX12_shortestOf_13 : decode cX12_shortestOf 13 = .ok (.aload_n 0, 1) := by decide +kernel
theorem dX12_shortestOf_14 : decode cX12_shortestOf 14 = .ok (.getfield 78, 3) := by decide +kernel
theorem dX12_shortestOf_17 : decode cX12_shortestOf 17 = .ok (.iload_n 3, 1) := by decide +kernel
theorem dX12_shortestOf_18 : decode cX12_shortestOf 18 = .ok (.iaload, 1) := by decide +kernel
theorem dX12_shortestOf_19 : decode cX12_shortestOf 19 = .ok (.iload_n 1, 1) := by decide +kernel
theorem dX12_shortestOf_20 : decode cX12_shortestOf 20 = .ok (.invokevirtual 334, 3) := by decide +kernel
theorem dX12_shortestOf_23 : decode cX12_shortestOf 23 = .ok (.ifCond .eq 27, 3) := by decide +kernel
theorem dX12_shortestOf_26 : decode cX12_shortestOf 26 = .ok (.iload_n 2, 1) := by decide +kernel
theorem dX12_shortestOf_27 : decode cX12_shortestOf 27 = .ok (.iconst (-1), 1) := by decide +kernel
theorem dX12_shortestOf_28 : decode cX12_shortestOf 28 = .ok (.if_icmp .eq 13, 3) := by decide +kernel
theorem dX12_shortestOf_31 : decode cX12_shortestOf 31 = .ok (.aload_n 0, 1) := by decide +kernel
theorem dX12_shortestOf_32 : decode cX12_shortestOf 32 = .ok (.getfield 88, 3) := by decide +kernel
theorem dX12_shortestOf_35 : decode cX12_shortestOf 35 = .ok (.iload_n 3, 1) := by decide +kernel
theorem dX12_shortestOf_36 : decode cX12_shortestOf 36 = .ok (.iaload, 1) := by decide +kernel
theorem dX12_shortestOf_37 : decode cX12_shortestOf 37 = .ok (.iload_n 2, 1) := by decide +kernel
theorem dX12_shortestOf_38 : decode cX12_shortestOf 38 = .ok (.if_icmp .ge 12, 3) := by decide +kernel
theorem dX12_shortestOf_41 : decode cX12_shortestOf 41 = .ok (.aload_n 0, 1) := by decide +kernel
theorem dX12_shortestOf_42 : decode cX12_shortestOf 42 = .ok (.getfield 88, 3) := by decide +kernel
theorem dX12_shortestOf_45 : decode cX12_shortestOf 45 = .ok (.iload_n 3, 1) := by decide +kernel
theorem dX12_shortestOf_46 : decode cX12_shortestOf 46 = .ok (.iaload, 1) := by decide +kernel
theorem dX12_shortestOf_47 : decode cX12_shortestOf 47 = .ok (.goto 4, 3) := by decide +kernel
theorem dX12_shortestOf_50 : decode cX12_shortestOf 50 = .ok (.iload_n 2, 1) := by decide +kernel
theorem dX12_shortestOf_51 : decode cX12_shortestOf 51 = .ok (.istore_n 2, 1) := by decide +kernel
theorem dX12_shortestOf_52 : decode cX12_shortestOf 52 = .ok (.iinc 3 1, 3) := by decide +kernel
theorem dX12_shortestOf_55 : decode cX12_shortestOf 55 = .ok (.goto (-51), 3) := by decide +kernel
theorem dX12_shortestOf_58 : decode cX12_shortestOf 58 = .ok (.iload_n 2, 1) := by decide +kernel
theorem dX12_shortestOf_59 : decode cX12_shortestOf 59 = .ok (.ireturn, 1) := by decide +kernel
theorem ggX12_shortest_X12_isReader : GoodIn wsX12_shortest wsX12_isReader := gdC (gd1 m11_2)
theorem gX12_shortest_X12_isReader : GoodIn wsX12_shortest (va_wsS RX12 116 yX12_isReader wsX12_isReader) := gdC (gd3 m11_0 m11_1 m1_5 m11_2)
theorem ggX12_shortest_X12_findPlaces : GoodIn wsX12_shortest wsX12_findPlaces := gdC (gd1 m39_20)
theorem gX12_shortest_X12_findPlaces : GoodIn wsX12_shortest (wsV RX12 331 RX12 yX12_findPlaces wsX12_findPlaces) := gdC (gd4 m39_17 m39_18 m39_19 m1_5 m39_20)
theorem ggX12_shortest_X12_shortestOf : GoodIn wsX12_shortest wsX12_shortestOf := gdC (gd1 m44_22)
theorem gX12_shortest_X12_shortestOf : GoodIn wsX12_shortest (wsV RX12 337 RX12 yX12_shortestOf wsX12_shortestOf) := gdC (gd4 m44_19 m44_20 m44_21 m1_5 m44_22)
theorem dX12_shortest_0 : decode cX12_shortest 0 = .ok (.iload_n 1, 1) := by decide +kernel
theorem dX12_shortest_1 : decode cX12_shortest 1 = .ok (.invokestatic 116, 3) := by decide +kernel
theorem dX12_shortest_4 : decode cX12_shortest 4 = .ok (.ifCond .ne 6, 3) := by decide +kernel
theorem dX12_shortest_7 : decode cX12_shortest 7 = .ok (.bipush (-2), 2) := by decide +kernel
theorem dX12_shortest_9 : decode cX12_shortest 9 = .ok (.ireturn, 1) := by decide +kernel
theorem dX12_shortest_10 : decode cX12_shortest 10 = .ok (.aload_n 0, 1) := by decide +kernel
theorem dX12_shortest_11 : decode cX12_shortest 11 = .ok (.iload_n 1, 1) := by decide +kernel
theorem dX12_shortest_12 : decode cX12_shortest 12 = .ok (.invokevirtual 331, 3) := by decide +kernel
theorem dX12_shortest_15 : decode cX12_shortest 15 = .ok (.aload_n 0, 1) := by decide +kernel
theorem dX12_shortest_16 : decode cX12_shortest 16 = .ok (.getfield 304, 3) := by decide +kernel
theorem dX12_shortest_19 : decode cX12_shortest 19 = .ok (.ifCond .eq 8, 3) := by decide +kernel
theorem dX12_shortest_22 : decode cX12_shortest 22 = .ok (.bipush (-6), 2) := by decide +kernel
theorem dX12_shortest_24 : decode cX12_shortest 24 = .ok (.goto 8, 3) := by decide +kernel
theorem dX12_shortest_27 : decode cX12_shortest 27 = .ok (.aload_n 0, 1) := by decide +kernel
theorem dX12_shortest_28 : decode cX12_shortest 28 = .ok (.iload_n 1, 1) := by decide +kernel
theorem dX12_shortest_29 : decode cX12_shortest 29 = .ok (.invokevirtual 337, 3) := by decide +kernel
theorem dX12_shortest_32 : decode cX12_shortest 32 = .ok (.ireturn, 1) := by decide +kernel
theorem ggX12_isTaken_X12_beginRow : GoodIn wsX12_isTaken wsX12_beginRow := gdC (gd1 m31_15)
theorem gX12_isTaken_X12_beginRow : GoodIn wsX12_isTaken (wsV RX12 266 RX12 yX12_beginRow wsX12_beginRow) := gdC (gd4 m31_12 m31_13 m31_14 m1_5 m31_15)
theorem ggX12_isTaken_X12_goOn : GoodIn wsX12_isTaken wsX12_goOn := gdC (gd1 m32_7)
theorem gX12_isTaken_X12_goOn : GoodIn wsX12_isTaken (wsV RX12 270 RX12 yX12_goOn wsX12_goOn) := gdC (gd4 m32_4 m32_5 m32_6 m1_5 m32_7)
theorem ggX12_isTaken_X12_doesTake : GoodIn wsX12_isTaken wsX12_doesTake := gdC (gd1 m33_9)
theorem gX12_isTaken_X12_doesTake : GoodIn wsX12_isTaken (wsV RX12 298 RX12 yX12_doesTake wsX12_doesTake) := gdC (gd4 m33_6 m33_7 m33_8 m1_5 m33_9)
theorem dX12_isTaken_0 : decode cX12_isTaken 0 = .ok (.iload_n 3, 1) := by decide +kernel
theorem dX12_isTaken_1 : decode cX12_isTaken 1 = .ok (.istore 4, 2) := by decide +kernel
theorem dX12_isTaken_3 : decode cX12_isTaken 3 = .ok (.iload_n 2, 1) := by decide +kernel
theorem dX12_isTaken_4 : decode cX12_isTaken 4 = .ok (.iconst 1, 1) := by decide +kernel
theorem dX12_isTaken_5 : decode cX12_isTaken 5 = .ok (.isub, 1) := by decide +kernel
theorem dX12_isTaken_6 : decode cX12_isTaken 6 = .ok (.istore 5, 2) := by decide +kernel
theorem dX12_isTaken_8 : decode cX12_isTaken 8 = .ok (.iload 5, 2) := by decide +kernel
theorem dX12_isTaken_10 : decode cX12_isTaken 10 = .ok (.ifCond .lt 28, 3) := by decide +kernel
theorem dX12_isTaken_13 : decode cX12_isTaken 13 = .ok (.aload_n 0, 1) := by decide +kernel
theorem dX12_isTaken_14 : decode cX12_isTaken 14 = .ok (.getfield 40, 3) := by decide +kernel
theorem dX12_isTaken_17 : decode cX12_isTaken 17 = .ok (.iload 5, 2) := by decide +kernel
theorem dX12_isTaken_19 : decode cX12_isTaken 19 = .ok (.iload 4, 2) := by decide +kernel
theorem dX12_isTaken_21 : decode cX12_isTaken 21 = .ok (.bipush 6, 2) := by decide +kernel
theorem dX12_isTaken_23 : decode cX12_isTaken 23 = .ok (.irem, 1) := by decide +kernel
theorem dX12_isTaken_24 : decode cX12_isTaken 24 = .ok (.iastore, 1) := by decide +kernel
theorem dX12_isTaken_25 : decode cX12_isTaken 25 = .ok (.iload 4, 2) := by decide +kernel
theorem dX12_isTaken_27 : decode cX12_isTaken 27 = .ok (.bipush 6, 2) := by decide +kernel
theorem dX12_isTaken_29 : decode cX12_isTaken 29 = .ok (.idiv, 1) := by decide +kernel
theorem dX12_isTaken_30 : decode cX12_isTaken 30 = .ok (.istore 4, 2) := by decide +kernel
theorem dX12_isTaken_32 : decode cX12_isTaken 32 = .ok (.iinc 5 (-1), 3) := by decide +kernel
theorem dX12_isTaken_35 : decode cX12_isTaken 35 = .ok (.goto (-27), 3) := by decide +kernel
theorem dX12_isTaken_38 : decode cX12_isTaken 38 = .ok (.aload_n 0, 1) := by decide +kernel
theorem dX12_isTaken_39 : decode cX12_isTaken 39 = .ok (.iload_n 1, 1) := by decide +kernel
theorem dX12_isTaken_40 : decode cX12_isTaken 40 = .ok (.invokevirtual 266, 3) := by decide +kernel
theorem dX12_isTaken_43 : decode cX12_isTaken 43 = .ok (.iconst 0, 1) := by decide +kernel
theorem dX12_isTaken_44 : decode cX12_isTaken 44 = .ok (.istore 5, 2) := by decide +kernel
theorem dX12_isTaken_46 : decode cX12_isTaken 46 = .ok (.iload 5, 2) := by decide +kernel
theorem dX12_isTaken_48 : decode cX12_isTaken 48 = .ok (.iload_n 2, 1) := by decide +kernel
theorem dX12_isTaken_49 : decode cX12_isTaken 49 = .ok (.if_icmp .ge 21, 3) := by decide +kernel
theorem dX12_isTaken_52 : decode cX12_isTaken 52 = .ok (.aload_n 0, 1) := by decide +kernel
theorem dX12_isTaken_53 : decode cX12_isTaken 53 = .ok (.iload_n 1, 1) := by decide +kernel
theorem dX12_isTaken_54 : decode cX12_isTaken 54 = .ok (.aload_n 0, 1) := by decide +kernel
theorem dX12_isTaken_55 : decode cX12_isTaken 55 = .ok (.getfield 40, 3) := by decide +kernel
theorem dX12_isTaken_58 : decode cX12_isTaken 58 = .ok (.iload 5, 2) := by decide +kernel
theorem dX12_isTaken_60 : decode cX12_isTaken 60 = .ok (.iaload, 1) := by decide +kernel
theorem dX12_isTaken_61 : decode cX12_isTaken 61 = .ok (.invokevirtual 270, 3) := by decide +kernel
theorem dX12_isTaken_64 : decode cX12_isTaken 64 = .ok (.iinc 5 1, 3) := by decide +kernel
theorem dX12_isTaken_67 : decode cX12_isTaken 67 = .ok (.goto (-21), 3) := by decide +kernel
theorem dX12_isTaken_70 : decode cX12_isTaken 70 = .ok (.aload_n 0, 1) := by decide +kernel
theorem dX12_isTaken_71 : decode cX12_isTaken 71 = .ok (.iload_n 1, 1) := by decide +kernel
theorem dX12_isTaken_72 : decode cX12_isTaken 72 = .ok (.aload_n 0, 1) := by decide +kernel
theorem dX12_isTaken_73 : decode cX12_isTaken 73 = .ok (.getfield 242, 3) := by decide +kernel
theorem dX12_isTaken_76 : decode cX12_isTaken 76 = .ok (.invokevirtual 298, 3) := by decide +kernel
theorem dX12_isTaken_79 : decode cX12_isTaken 79 = .ok (.ireturn, 1) := by decide +kernel
theorem ggX12_letterOf_X12_isTaken : GoodIn wsX12_letterOf wsX12_isTaken := gdC (gd1 m47_5)
theorem gX12_letterOf_X12_isTaken : GoodIn wsX12_letterOf (wsV RX12 340 RX12 yX12_isTaken wsX12_isTaken) := gdC (gd4 m47_2 m47_3 m47_4 m1_5 m47_5)
theorem dX12_letterOf_0 : decode cX12_letterOf 0 = .ok (.iconst 1, 1) := by decide +kernel
theorem dX12_letterOf_1 : decode cX12_letterOf 1 = .ok (.istore 5, 2) := by decide +kernel
theorem dX12_letterOf_3 : decode cX12_letterOf 3 = .ok (.iconst 0, 1) := by decide +kernel
theorem dX12_letterOf_4 : decode cX12_letterOf 4 = .ok (.istore 6, 2) := by decide +kernel
theorem dX12_letterOf_6 : decode cX12_letterOf 6 = .ok (.iload 6, 2) := by decide +kernel
theorem dX12_letterOf_8 : decode cX12_letterOf 8 = .ok (.iload_n 2, 1) := by decide +kernel
theorem dX12_letterOf_9 : decode cX12_letterOf 9 = .ok (.if_icmp .ge 16, 3) := by decide +kernel
theorem dX12_letterOf_12 : decode cX12_letterOf 12 = .ok (.bipush 6, 2) := by decide +kernel
theorem dX12_letterOf_14 : decode cX12_letterOf 14 = .ok (.iload 5, 2) := by decide +kernel
theorem dX12_letterOf_16 : decode cX12_letterOf 16 = .ok (.imul, 1) := by decide +kernel
theorem dX12_letterOf_17 : decode cX12_letterOf 17 = .ok (.istore 5, 2) := by decide +kernel
theorem dX12_letterOf_19 : decode cX12_letterOf 19 = .ok (.iinc 6 1, 3) := by decide +kernel
theorem dX12_letterOf_22 : decode cX12_letterOf 22 = .ok (.goto (-16), 3) := by decide +kernel
theorem dX12_letterOf_25 : decode cX12_letterOf 25 = .ok (.iload_n 3, 1) := by decide +kernel
theorem dX12_letterOf_26 : decode cX12_letterOf 26 = .ok (.istore 6, 2) := by decide +kernel
theorem dX12_letterOf_28 : decode cX12_letterOf 28 = .ok (.iconst 0, 1) := by decide +kernel
theorem dX12_letterOf_29 : decode cX12_letterOf 29 = .ok (.istore 7, 2) := by decide +kernel
theorem dX12_letterOf_31 : decode cX12_letterOf 31 = .ok (.iload 7, 2) := by decide +kernel
theorem dX12_letterOf_33 : decode cX12_letterOf 33 = .ok (.iload 5, 2) := by decide +kernel
theorem dX12_letterOf_35 : decode cX12_letterOf 35 = .ok (.if_icmp .ge 55, 3) := by decide +kernel
theorem dX12_letterOf_38 : decode cX12_letterOf 38 = .ok (.aload_n 0, 1) := by decide +kernel
theorem dX12_letterOf_39 : decode cX12_letterOf 39 = .ok (.iload_n 1, 1) := by decide +kernel
theorem dX12_letterOf_40 : decode cX12_letterOf 40 = .ok (.iload_n 2, 1) := by decide +kernel
theorem dX12_letterOf_41 : decode cX12_letterOf 41 = .ok (.iload 7, 2) := by decide +kernel
theorem dX12_letterOf_43 : decode cX12_letterOf 43 = .ok (.invokevirtual 340, 3) := by decide +kernel
theorem dX12_letterOf_46 : decode cX12_letterOf 46 = .ok (.ifCond .eq 38, 3) := by decide +kernel
theorem dX12_letterOf_49 : decode cX12_letterOf 49 = .ok (.iload 6, 2) := by decide +kernel
theorem dX12_letterOf_51 : decode cX12_letterOf 51 = .ok (.ifCond .ne 30, 3) := by decide +kernel
theorem dX12_letterOf_54 : decode cX12_letterOf 54 = .ok (.aload_n 0, 1) := by decide +kernel
theorem dX12_letterOf_55 : decode cX12_letterOf 55 = .ok (.iload_n 1, 1) := by decide +kernel
theorem dX12_letterOf_56 : decode cX12_letterOf 56 = .ok (.iload_n 2, 1) := by decide +kernel
theorem dX12_letterOf_57 : decode cX12_letterOf 57 = .ok (.iload 7, 2) := by decide +kernel
theorem dX12_letterOf_59 : decode cX12_letterOf 59 = .ok (.invokevirtual 340, 3) := by decide +kernel
theorem dX12_letterOf_62 : decode cX12_letterOf 62 = .ok (.pop, 1) := by decide +kernel
theorem dX12_letterOf_63 : decode cX12_letterOf 63 = .ok (.iload 4, 2) := by decide +kernel
theorem dX12_letterOf_65 : decode cX12_letterOf 65 = .ok (.iload_n 2, 1) := by decide +kernel
theorem dX12_letterOf_66 : decode cX12_letterOf 66 = .ok (.if_icmp .ge 13, 3) := by decide +kernel
theorem dX12_letterOf_69 : decode cX12_letterOf 69 = .ok (.aload_n 0, 1) := by decide +kernel
theorem dX12_letterOf_70 : decode cX12_letterOf 70 = .ok (.getfield 40, 3) := by decide +kernel
theorem dX12_letterOf_73 : decode cX12_letterOf 73 = .ok (.iload 4, 2) := by decide +kernel
theorem dX12_letterOf_75 : decode cX12_letterOf 75 = .ok (.iaload, 1) := by decide +kernel
theorem dX12_letterOf_76 : decode cX12_letterOf 76 = .ok (.goto 4, 3) := by decide +kernel
theorem dX12_letterOf_79 : decode cX12_letterOf 79 = .ok (.iconst (-1), 1) := by decide +kernel
theorem dX12_letterOf_80 : decode cX12_letterOf 80 = .ok (.ireturn, 1) := by decide +kernel
theorem dX12_letterOf_81 : decode cX12_letterOf 81 = .ok (.iinc 6 (-1), 3) := by decide +kernel
theorem dX12_letterOf_84 : decode cX12_letterOf 84 = .ok (.iinc 7 1, 3) := by decide +kernel
theorem dX12_letterOf_87 : decode cX12_letterOf 87 = .ok (.goto (-56), 3) := by decide +kernel
theorem dX12_letterOf_90 : decode cX12_letterOf 90 = .ok (.iconst (-1), 1) := by decide +kernel
theorem dX12_letterOf_91 : decode cX12_letterOf 91 = .ok (.ireturn, 1) := by decide +kernel
theorem ggX12_first_X12_isReader : GoodIn wsX12_first wsX12_isReader := gdC (gd1 m11_2)
theorem gX12_first_X12_isReader : GoodIn wsX12_first (va_wsS RX12 116 yX12_isReader wsX12_isReader) := gdC (gd3 m11_0 m11_1 m1_5 m11_2)
theorem ggX12_first_X12_findPlaces : GoodIn wsX12_first wsX12_findPlaces := gdC (gd1 m39_20)
theorem gX12_first_X12_findPlaces : GoodIn wsX12_first (wsV RX12 331 RX12 yX12_findPlaces wsX12_findPlaces) := gdC (gd4 m39_17 m39_18 m39_19 m1_5 m39_20)
theorem ggX12_first_X12_shortestOf : GoodIn wsX12_first wsX12_shortestOf := gdC (gd1 m44_22)
theorem gX12_first_X12_shortestOf : GoodIn wsX12_first (wsV RX12 337 RX12 yX12_shortestOf wsX12_shortestOf) := gdC (gd4 m44_19 m44_20 m44_21 m1_5 m44_22)
theorem ggX12_first_X12_letterOf : GoodIn wsX12_first wsX12_letterOf := gdC (gd1 m47_1)
theorem gX12_first_X12_letterOf : GoodIn wsX12_first (wsV RX12 343 RX12 yX12_letterOf wsX12_letterOf) := gdC (gd4 m46_22 m46_23 m47_0 m1_5 m47_1)
theorem dX12_first_0 : decode cX12_first 0 = .ok (.iload_n 1, 1) := by decide +kernel
theorem dX12_first_1 : decode cX12_first 1 = .ok (.invokestatic 116, 3) := by decide +kernel
theorem dX12_first_4 : decode cX12_first 4 = .ok (.ifCond .ne 6, 3) := by decide +kernel
theorem dX12_first_7 : decode cX12_first 7 = .ok (.bipush (-2), 2) := by decide +kernel
theorem dX12_first_9 : decode cX12_first 9 = .ok (.ireturn, 1) := by decide +kernel
theorem dX12_first_10 : decode cX12_first 10 = .ok (.iload_n 2, 1) := by decide +kernel
theorem dX12_first_11 : decode cX12_first 11 = .ok (.ifCond .ge 6, 3) := by decide +kernel
theorem dX12_first_14 : decode cX12_first 14 = .ok (.bipush (-3), 2) := by decide +kernel
theorem dX12_first_16 : decode cX12_first 16 = .ok (.ireturn, 1) := by decide +kernel
theorem dX12_first_17 : decode cX12_first 17 = .ok (.aload_n 0, 1) := by decide +kernel
theorem dX12_first_18 : decode cX12_first 18 = .ok (.iload_n 1, 1) := by decide +kernel
theorem dX12_first_19 : decode cX12_first 19 = .ok (.invokevirtual 331, 3) := by decide +kernel
theorem dX12_first_22 : decode cX12_first 22 = .ok (.aload_n 0, 1) := by decide +kernel
theorem dX12_first_23 : decode cX12_first 23 = .ok (.getfield 304, 3) := by decide +kernel
theorem dX12_first_26 : decode cX12_first 26 = .ok (.ifCond .eq 6, 3) := by decide +kernel
theorem dX12_first_29 : decode cX12_first 29 = .ok (.bipush (-6), 2) := by decide +kernel
theorem dX12_first_31 : decode cX12_first 31 = .ok (.ireturn, 1) := by decide +kernel
theorem dX12_first_32 : decode cX12_first 32 = .ok (.aload_n 0, 1) := by decide +kernel
theorem dX12_first_33 : decode cX12_first 33 = .ok (.iload_n 1, 1) := by decide +kernel
theorem dX12_first_34 : decode cX12_first 34 = .ok (.invokevirtual 337, 3) := by decide +kernel
theorem dX12_first_37 : decode cX12_first 37 = .ok (.istore_n 3, 1) := by decide +kernel
theorem dX12_first_38 : decode cX12_first 38 = .ok (.iload_n 3, 1) := by decide +kernel
theorem dX12_first_39 : decode cX12_first 39 = .ok (.iconst (-1), 1) := by decide +kernel
theorem dX12_first_40 : decode cX12_first 40 = .ok (.if_icmp .eq 13, 3) := by decide +kernel
theorem dX12_first_43 : decode cX12_first 43 = .ok (.iload_n 3, 1) := by decide +kernel
theorem dX12_first_44 : decode cX12_first 44 = .ok (.iconst 5, 1) := by decide +kernel
theorem dX12_first_45 : decode cX12_first 45 = .ok (.if_icmp .gt 8, 3) := by decide +kernel
theorem dX12_first_48 : decode cX12_first 48 = .ok (.iload_n 2, 1) := by decide +kernel
theorem dX12_first_49 : decode cX12_first 49 = .ok (.iload_n 3, 1) := by decide +kernel
theorem dX12_first_50 : decode cX12_first 50 = .ok (.if_icmp .lt 7, 3) := by decide +kernel
theorem dX12_first_53 : decode cX12_first 53 = .ok (.iconst (-1), 1) := by decide +kernel
theorem dX12_first_54 : decode cX12_first 54 = .ok (.goto 11, 3) := by decide +kernel
theorem dX12_first_57 : decode cX12_first 57 = .ok (.aload_n 0, 1) := by decide +kernel
theorem dX12_first_58 : decode cX12_first 58 = .ok (.iload_n 1, 1) := by decide +kernel
theorem dX12_first_59 : decode cX12_first 59 = .ok (.iload_n 3, 1) := by decide +kernel
theorem dX12_first_60 : decode cX12_first 60 = .ok (.iconst 0, 1) := by decide +kernel
theorem dX12_first_61 : decode cX12_first 61 = .ok (.iload_n 2, 1) := by decide +kernel
theorem dX12_first_62 : decode cX12_first 62 = .ok (.invokevirtual 343, 3) := by decide +kernel
theorem dX12_first_65 : decode cX12_first 65 = .ok (.ireturn, 1) := by decide +kernel
theorem dX12_wholeOf_0 : decode cX12_wholeOf 0 = .ok (.iconst 0, 1) := by decide +kernel
theorem dX12_wholeOf_1 : decode cX12_wholeOf 1 = .ok (.istore_n 2, 1) := by decide +kernel
theorem dX12_wholeOf_2 : decode cX12_wholeOf 2 = .ok (.iconst 0, 1) := by decide +kernel
theorem dX12_wholeOf_3 : decode cX12_wholeOf 3 = .ok (.istore_n 3, 1) := by decide +kernel
theorem dX12_wholeOf_4 : decode cX12_wholeOf 4 = .ok (.iload_n 3, 1) := by decide +kernel
theorem dX12_wholeOf_5 : decode cX12_wholeOf 5 = .ok (.aload_n 0, 1) := by decide +kernel
theorem dX12_wholeOf_6 : decode cX12_wholeOf 6 = .ok (.getfield 301, 3) := by decide +kernel
theorem dX12_wholeOf_9 : decode cX12_wholeOf 9 = .ok (.if_icmp .ge 25, 3) := by decide +kernel
theorem dX12_wholeOf_12 : decode cX12_wholeOf 12 = .ok (.aload_n 0, 1) := by decide +kernel
theorem dX12_wholeOf_13 : decode cX12_wholeOf 13 = .ok (.getfield 72, 3) := by decide +kernel
theorem dX12_wholeOf_16 : decode cX12_wholeOf 16 = .ok (.iload_n 3, 1) := by decide +kernel
theorem dX12_wholeOf_17 : decode cX12_wholeOf 17 = .ok (.iaload, 1) := by decide +kernel
theorem dX12_wholeOf_18 : decode cX12_wholeOf 18 = .ok (.iload_n 1, 1) := by decide +kernel
theorem dX12_wholeOf_19 : decode cX12_wholeOf 19 = .ok (.if_icmp .ne 7, 3) := by decide +kernel
theorem dX12_wholeOf_22 : decode cX12_wholeOf 22 = .ok (.iload_n 3, 1) := by decide +kernel
theorem dX12_wholeOf_23 : decode cX12_wholeOf 23 = .ok (.goto 4, 3) := by decide +kernel
theorem dX12_wholeOf_26 : decode cX12_wholeOf 26 = .ok (.iload_n 2, 1) := by decide +kernel
theorem dX12_wholeOf_27 : decode cX12_wholeOf 27 = .ok (.istore_n 2, 1) := by decide +kernel
theorem dX12_wholeOf_28 : decode cX12_wholeOf 28 = .ok (.iinc 3 1, 3) := by decide +kernel
theorem dX12_wholeOf_31 : decode cX12_wholeOf 31 = .ok (.goto (-27), 3) := by decide +kernel
theorem dX12_wholeOf_34 : decode cX12_wholeOf 34 = .ok (.iload_n 2, 1) := by decide +kernel
theorem dX12_wholeOf_35 : decode cX12_wholeOf 35 = .ok (.ireturn, 1) := by decide +kernel
theorem ggX12_countWholes_X12_plain : GoodIn wsX12_countWholes wsX12_plain := gdC (gd1 m32_15)
theorem gX12_countWholes_X12_plain : GoodIn wsX12_countWholes (wsV RX12 254 RX12 yX12_plain wsX12_plain) := gdC (gd4 m32_12 m32_13 m32_14 m1_5 m32_15)
theorem ggX12_countWholes_X12_follow : GoodIn wsX12_countWholes wsX12_follow := gdC (gd1 m32_21)
theorem gX12_countWholes_X12_follow : GoodIn wsX12_countWholes (va_wsS RX12 257 yX12_follow wsX12_follow) := gdC (gd3 m32_19 m32_20 m1_5 m32_21)
theorem ggX12_countWholes_X12_wholeOf : GoodIn wsX12_countWholes wsX12_wholeOf := gdC (gd1 m49_20)
theorem gX12_countWholes_X12_wholeOf : GoodIn wsX12_countWholes (wsV RX12 346 RX12 yX12_wholeOf wsX12_wholeOf) := gdC (gd4 m49_17 m49_18 m49_19 m1_5 m49_20)
theorem ggX12_countWholes_X12_countBlocks : GoodIn wsX12_countWholes wsX12_countBlocks := gdC (gd1 m50_0)
theorem gX12_countWholes_X12_countBlocks : GoodIn wsX12_countWholes (wsV RX12 349 RX12 yX12_countBlocks wsX12_countBlocks) := gdC (gd4 m49_21 m49_22 m49_23 m1_5 m50_0)
theorem dX12_countWholes_0 : decode cX12_countWholes 0 = .ok (.iconst 0, 1) := by decide +kernel
theorem dX12_countWholes_1 : decode cX12_countWholes 1 = .ok (.istore_n 3, 1) := by decide +kernel
theorem dX12_countWholes_2 : decode cX12_countWholes 2 = .ok (.iload_n 3, 1) := by decide +kernel
theorem dX12_countWholes_3 : decode cX12_countWholes 3 = .ok (.sipush 832, 3) := by decide +kernel
theorem dX12_countWholes_6 : decode cX12_countWholes 6 = .ok (.if_icmp .ge 16, 3) := by decide +kernel
theorem dX12_countWholes_9 : decode cX12_countWholes 9 = .ok (.aload_n 0, 1) := by decide +kernel
theorem dX12_countWholes_10 : decode cX12_countWholes 10 = .ok (.getfield 91, 3) := by decide +kernel
theorem dX12_countWholes_13 : decode cX12_countWholes 13 = .ok (.iload_n 3, 1) := by decide +kernel
theorem dX12_countWholes_14 : decode cX12_countWholes 14 = .ok (.lconst 0, 1) := by decide +kernel
theorem dX12_countWholes_15 : decode cX12_countWholes 15 = .ok (.lastore, 1) := by decide +kernel
theorem dX12_countWholes_16 : decode cX12_countWholes 16 = .ok (.iinc 3 1, 3) := by decide +kernel
theorem dX12_countWholes_19 : decode cX12_countWholes 19 = .ok (.goto (-17), 3) := by decide +kernel
theorem dX12_countWholes_22 : decode cX12_countWholes 22 = .ok (.aload_n 0, 1) := by decide +kernel
theorem dX12_countWholes_23 : decode cX12_countWholes 23 = .ok (.getfield 91, 3) := by decide +kernel
theorem dX12_countWholes_26 : decode cX12_countWholes 26 = .ok (.iconst 0, 1) := by decide +kernel
theorem dX12_countWholes_27 : decode cX12_countWholes 27 = .ok (.lconst 1, 1) := by decide +kernel
theorem dX12_countWholes_28 : decode cX12_countWholes 28 = .ok (.lastore, 1) := by decide +kernel
theorem dX12_countWholes_29 : decode cX12_countWholes 29 = .ok (.iconst 0, 1) := by decide +kernel
theorem dX12_countWholes_30 : decode cX12_countWholes 30 = .ok (.istore_n 3, 1) := by decide +kernel
theorem dX12_countWholes_31 : decode cX12_countWholes 31 = .ok (.iload_n 3, 1) := by decide +kernel
theorem dX12_countWholes_32 : decode cX12_countWholes 32 = .ok (.iload_n 2, 1) := by decide +kernel
theorem dX12_countWholes_33 : decode cX12_countWholes 33 = .ok (.if_icmp .gt 128, 3) := by decide +kernel
theorem dX12_countWholes_36 : decode cX12_countWholes 36 = .ok (.iconst 0, 1) := by decide +kernel
theorem dX12_countWholes_37 : decode cX12_countWholes 37 = .ok (.istore 4, 2) := by decide +kernel
theorem dX12_countWholes_39 : decode cX12_countWholes 39 = .ok (.iload 4, 2) := by decide +kernel
theorem dX12_countWholes_41 : decode cX12_countWholes 41 = .ok (.aload_n 0, 1) := by decide +kernel
theorem dX12_countWholes_42 : decode cX12_countWholes 42 = .ok (.getfield 301, 3) := by decide +kernel
theorem dX12_countWholes_45 : decode cX12_countWholes 45 = .ok (.if_icmp .ge 101, 3) := by decide +kernel
theorem dX12_countWholes_48 : decode cX12_countWholes 48 = .ok (.aload_n 0, 1) := by decide +kernel
theorem dX12_countWholes_49 : decode cX12_countWholes 49 = .ok (.getfield 91, 3) := by decide +kernel
theorem dX12_countWholes_52 : decode cX12_countWholes 52 = .ok (.bipush 64, 2) := by decide +kernel
theorem dX12_countWholes_54 : decode cX12_countWholes 54 = .ok (.iload_n 3, 1) := by decide +kernel
theorem dX12_countWholes_55 : decode cX12_countWholes 55 = .ok (.imul, 1) := by decide +kernel
theorem dX12_countWholes_56 : decode cX12_countWholes 56 = .ok (.iload 4, 2) := by decide +kernel
theorem dX12_countWholes_58 : decode cX12_countWholes 58 = .ok (.iadd, 1) := by decide +kernel
theorem dX12_countWholes_59 : decode cX12_countWholes 59 = .ok (.laload, 1) := by decide +kernel
theorem dX12_countWholes_60 : decode cX12_countWholes 60 = .ok (.lstore 5, 2) := by decide +kernel
theorem dX12_countWholes_62 : decode cX12_countWholes 62 = .ok (.iconst 2, 1) := by decide +kernel
theorem dX12_countWholes_63 : decode cX12_countWholes 63 = .ok (.istore 7, 2) := by decide +kernel
theorem dX12_countWholes_65 : decode cX12_countWholes 65 = .ok (.iload 7, 2) := by decide +kernel
theorem dX12_countWholes_67 : decode cX12_countWholes 67 = .ok (.iconst 4, 1) := by decide +kernel
theorem dX12_countWholes_68 : decode cX12_countWholes 68 = .ok (.if_icmp .ge 72, 3) := by decide +kernel
theorem dX12_countWholes_71 : decode cX12_countWholes 71 = .ok (.lload 5, 2) := by decide +kernel
theorem dX12_countWholes_73 : decode cX12_countWholes 73 = .ok (.lconst 0, 1) := by decide +kernel
theorem dX12_countWholes_74 : decode cX12_countWholes 74 = .ok (.lcmp, 1) := by decide +kernel
theorem dX12_countWholes_75 : decode cX12_countWholes 75 = .ok (.ifCond .eq 65, 3) := by decide +kernel
theorem dX12_countWholes_78 : decode cX12_countWholes 78 = .ok (.iload_n 3, 1) := by decide +kernel
theorem dX12_countWholes_79 : decode cX12_countWholes 79 = .ok (.iload_n 2, 1) := by decide +kernel
theorem dX12_countWholes_80 : decode cX12_countWholes 80 = .ok (.if_icmp .ge 60, 3) := by decide +kernel
theorem dX12_countWholes_83 : decode cX12_countWholes 83 = .ok (.bipush 64, 2) := by decide +kernel
theorem dX12_countWholes_85 : decode cX12_countWholes 85 = .ok (.iload_n 3, 1) := by decide +kernel
theorem dX12_countWholes_86 : decode cX12_countWholes 86 = .ok (.iconst 1, 1) := by decide +kernel
theorem dX12_countWholes_87 : decode cX12_countWholes 87 = .ok (.iadd, 1) := by decide +kernel
theorem dX12_countWholes_88 : decode cX12_countWholes 88 = .ok (.imul, 1) := by decide +kernel
theorem dX12_countWholes_89 : decode cX12_countWholes 89 = .ok (.aload_n 0, 1) := by decide +kernel
theorem dX12_countWholes_90 : decode cX12_countWholes 90 = .ok (.aload_n 0, 1) := by decide +kernel
theorem dX12_countWholes_91 : decode cX12_countWholes 91 = .ok (.getfield 72, 3) := by decide +kernel
theorem dX12_countWholes_94 : decode cX12_countWholes 94 = .ok (.iload 4, 2) := by decide +kernel
theorem dX12_countWholes_96 : decode cX12_countWholes 96 = .ok (.iaload, 1) := by decide +kernel
theorem dX12_countWholes_97 : decode cX12_countWholes 97 = .ok (.aload_n 0, 1) := by decide +kernel
theorem dX12_countWholes_98 : decode cX12_countWholes 98 = .ok (.iload_n 1, 1) := by decide +kernel
theorem dX12_countWholes_99 : decode cX12_countWholes 99 = .ok (.iload 7, 2) := by decide +kernel
theorem dX12_countWholes_101 : decode cX12_countWholes 101 = .ok (.invokevirtual 254, 3) := by decide +kernel
theorem dX12_countWholes_104 : decode cX12_countWholes 104 = .ok (.invokestatic 257, 3) := by decide +kernel
theorem dX12_countWholes_107 : decode cX12_countWholes 107 = .ok (.invokevirtual 346, 3) := by decide +kernel
theorem dX12_countWholes_110 : decode cX12_countWholes 110 = .ok (.iadd, 1) := by decide +kernel
theorem dX12_countWholes_111 : decode cX12_countWholes 111 = .ok (.istore 8, 2) := by decide +kernel
theorem dX12_countWholes_113 : decode cX12_countWholes 113 = .ok (.aload_n 0, 1) := by decide +kernel
theorem dX12_countWholes_114 : decode cX12_countWholes 114 = .ok (.getfield 91, 3) := by decide +kernel
theorem dX12_countWholes_117 : decode cX12_countWholes 117 = .ok (.iload 8, 2) := by decide +kernel
theorem dX12_countWholes_119 : decode cX12_countWholes 119 = .ok (.aload_n 0, 1) := by decide +kernel
theorem dX12_countWholes_120 : decode cX12_countWholes 120 = .ok (.getfield 91, 3) := by decide +kernel
theorem dX12_countWholes_123 : decode cX12_countWholes 123 = .ok (.iload 8, 2) := by decide +kernel
theorem dX12_countWholes_125 : decode cX12_countWholes 125 = .ok (.laload, 1) := by decide +kernel
theorem dX12_countWholes_126 : decode cX12_countWholes 126 = .ok (.lload 5, 2) := by decide +kernel
theorem dX12_countWholes_128 : decode cX12_countWholes 128 = .ok (.ladd, 1) := by decide +kernel
theorem dX12_countWholes_129 : decode cX12_countWholes 129 = .ok (.ldc2_w 290, 3) := by decide +kernel
theorem dX12_countWholes_132 : decode cX12_countWholes 132 = .ok (.lrem, 1) := by decide +kernel
theorem dX12_countWholes_133 : decode cX12_countWholes 133 = .ok (.lastore, 1) := by decide +kernel
theorem dX12_countWholes_134 : decode cX12_countWholes 134 = .ok (.iinc 7 1, 3) := by decide +kernel
theorem dX12_countWholes_137 : decode cX12_countWholes 137 = .ok (.goto (-72), 3) := by decide +kernel
theorem dX12_countWholes_140 : decode cX12_countWholes 140 = .ok (.iinc 4 1, 3) := by decide +kernel
theorem dX12_countWholes_143 : decode cX12_countWholes 143 = .ok (.goto (-104), 3) := by decide +kernel
theorem dX12_countWholes_146 : decode cX12_countWholes 146 = .ok (.aload_n 0, 1) := by decide +kernel
theorem dX12_countWholes_147 : decode cX12_countWholes 147 = .ok (.iload_n 1, 1) := by decide +kernel
theorem dX12_countWholes_148 : decode cX12_countWholes 148 = .ok (.iload_n 3, 1) := by decide +kernel
theorem dX12_countWholes_149 : decode cX12_countWholes 149 = .ok (.iconst 1, 1) := by decide +kernel
theorem dX12_countWholes_150 : decode cX12_countWholes 150 = .ok (.iadd, 1) := by decide +kernel
theorem dX12_countWholes_151 : decode cX12_countWholes 151 = .ok (.iload_n 2, 1) := by decide +kernel
theorem dX12_countWholes_152 : decode cX12_countWholes 152 = .ok (.invokevirtual 349, 3) := by decide +kernel
theorem dX12_countWholes_155 : decode cX12_countWholes 155 = .ok (.iinc 3 1, 3) := by decide +kernel
theorem dX12_countWholes_158 : decode cX12_countWholes 158 = .ok (.goto (-127), 3) := by decide +kernel
theorem dX12_countWholes_161 : decode cX12_countWholes 161 = .ok (.return_, 1) := by decide +kernel
theorem ggX12_countBlocks_X12_block : GoodIn wsX12_countBlocks wsX12_block := gdC (gd1 m33_1)
theorem gX12_countBlocks_X12_block : GoodIn wsX12_countBlocks (wsV RX12 260 RX12 yX12_block wsX12_block) := gdC (gd4 m32_22 m32_23 m33_0 m1_5 m33_1)
theorem ggX12_countBlocks_X12_follow : GoodIn wsX12_countBlocks wsX12_follow := gdC (gd1 m32_21)
theorem gX12_countBlocks_X12_follow : GoodIn wsX12_countBlocks (va_wsS RX12 257 yX12_follow wsX12_follow) := gdC (gd3 m32_19 m32_20 m1_5 m32_21)
theorem ggX12_countBlocks_X12_wholeOf : GoodIn wsX12_countBlocks wsX12_wholeOf := gdC (gd1 m49_20)
theorem gX12_countBlocks_X12_wholeOf : GoodIn wsX12_countBlocks (wsV RX12 346 RX12 yX12_wholeOf wsX12_wholeOf) := gdC (gd4 m49_17 m49_18 m49_19 m1_5 m49_20)
theorem dX12_countBlocks_0 : decode cX12_countBlocks 0 = .ok (.iconst 0, 1) := by decide +kernel
theorem dX12_countBlocks_1 : decode cX12_countBlocks 1 = .ok (.istore 4, 2) := by decide +kernel
theorem dX12_countBlocks_3 : decode cX12_countBlocks 3 = .ok (.iload 4, 2) := by decide +kernel
theorem dX12_countBlocks_5 : decode cX12_countBlocks 5 = .ok (.iconst 2, 1) := by decide +kernel
theorem dX12_countBlocks_6 : decode cX12_countBlocks 6 = .ok (.iadd, 1) := by decide +kernel
theorem dX12_countBlocks_7 : decode cX12_countBlocks 7 = .ok (.iload_n 2, 1) := by decide +kernel
theorem dX12_countBlocks_8 : decode cX12_countBlocks 8 = .ok (.if_icmp .gt 202, 3) := by decide +kernel
theorem dX12_countBlocks_11 : decode cX12_countBlocks 11 = .ok (.iload_n 2, 1) := by decide +kernel
theorem dX12_countBlocks_12 : decode cX12_countBlocks 12 = .ok (.iload_n 3, 1) := by decide +kernel
theorem dX12_countBlocks_13 : decode cX12_countBlocks 13 = .ok (.if_icmp .gt 197, 3) := by decide +kernel
theorem dX12_countBlocks_16 : decode cX12_countBlocks 16 = .ok (.iload_n 2, 1) := by decide +kernel
theorem dX12_countBlocks_17 : decode cX12_countBlocks 17 = .ok (.iconst 2, 1) := by decide +kernel
theorem dX12_countBlocks_18 : decode cX12_countBlocks 18 = .ok (.isub, 1) := by decide +kernel
theorem dX12_countBlocks_19 : decode cX12_countBlocks 19 = .ok (.iload 4, 2) := by decide +kernel
theorem dX12_countBlocks_21 : decode cX12_countBlocks 21 = .ok (.isub, 1) := by decide +kernel
theorem dX12_countBlocks_22 : decode cX12_countBlocks 22 = .ok (.istore 5, 2) := by decide +kernel
theorem dX12_countBlocks_24 : decode cX12_countBlocks 24 = .ok (.iconst 0, 1) := by decide +kernel
theorem dX12_countBlocks_25 : decode cX12_countBlocks 25 = .ok (.istore 6, 2) := by decide +kernel
theorem dX12_countBlocks_27 : decode cX12_countBlocks 27 = .ok (.iload 6, 2) := by decide +kernel
theorem dX12_countBlocks_29 : decode cX12_countBlocks 29 = .ok (.aload_n 0, 1) := by decide +kernel
theorem dX12_countBlocks_30 : decode cX12_countBlocks 30 = .ok (.getfield 301, 3) := by decide +kernel
theorem dX12_countBlocks_33 : decode cX12_countBlocks 33 = .ok (.if_icmp .ge 171, 3) := by decide +kernel
theorem dX12_countBlocks_36 : decode cX12_countBlocks 36 = .ok (.iconst 0, 1) := by decide +kernel
theorem dX12_countBlocks_37 : decode cX12_countBlocks 37 = .ok (.istore 7, 2) := by decide +kernel
theorem dX12_countBlocks_39 : decode cX12_countBlocks 39 = .ok (.iload 7, 2) := by decide +kernel
theorem dX12_countBlocks_41 : decode cX12_countBlocks 41 = .ok (.iconst 4, 1) := by decide +kernel
theorem dX12_countBlocks_42 : decode cX12_countBlocks 42 = .ok (.if_icmp .ge 156, 3) := by decide +kernel
theorem dX12_countBlocks_45 : decode cX12_countBlocks 45 = .ok (.aload_n 0, 1) := by decide +kernel
theorem dX12_countBlocks_46 : decode cX12_countBlocks 46 = .ok (.getfield 91, 3) := by decide +kernel
theorem dX12_countBlocks_49 : decode cX12_countBlocks 49 = .ok (.bipush 64, 2) := by decide +kernel
theorem dX12_countBlocks_51 : decode cX12_countBlocks 51 = .ok (.iload 4, 2) := by decide +kernel
theorem dX12_countBlocks_53 : decode cX12_countBlocks 53 = .ok (.imul, 1) := by decide +kernel
theorem dX12_countBlocks_54 : decode cX12_countBlocks 54 = .ok (.iload 6, 2) := by decide +kernel
theorem dX12_countBlocks_56 : decode cX12_countBlocks 56 = .ok (.iadd, 1) := by decide +kernel
theorem dX12_countBlocks_57 : decode cX12_countBlocks 57 = .ok (.laload, 1) := by decide +kernel
theorem dX12_countBlocks_58 : decode cX12_countBlocks 58 = .ok (.lconst 0, 1) := by decide +kernel
theorem dX12_countBlocks_59 : decode cX12_countBlocks 59 = .ok (.lcmp, 1) := by decide +kernel
theorem dX12_countBlocks_60 : decode cX12_countBlocks 60 = .ok (.ifCond .eq 138, 3) := by decide +kernel
theorem dX12_countBlocks_63 : decode cX12_countBlocks 63 = .ok (.aload_n 0, 1) := by decide +kernel
theorem dX12_countBlocks_64 : decode cX12_countBlocks 64 = .ok (.iload_n 1, 1) := by decide +kernel
theorem dX12_countBlocks_65 : decode cX12_countBlocks 65 = .ok (.iload 7, 2) := by decide +kernel
theorem dX12_countBlocks_67 : decode cX12_countBlocks 67 = .ok (.iconst 2, 1) := by decide +kernel
theorem dX12_countBlocks_68 : decode cX12_countBlocks 68 = .ok (.idiv, 1) := by decide +kernel
theorem dX12_countBlocks_69 : decode cX12_countBlocks 69 = .ok (.aload_n 0, 1) := by decide +kernel
theorem dX12_countBlocks_70 : decode cX12_countBlocks 70 = .ok (.getfield 72, 3) := by decide +kernel
theorem dX12_countBlocks_73 : decode cX12_countBlocks 73 = .ok (.iload 6, 2) := by decide +kernel
theorem dX12_countBlocks_75 : decode cX12_countBlocks 75 = .ok (.iaload, 1) := by decide +kernel
theorem dX12_countBlocks_76 : decode cX12_countBlocks 76 = .ok (.iconst 4, 1) := by decide +kernel
theorem dX12_countBlocks_77 : decode cX12_countBlocks 77 = .ok (.iload 7, 2) := by decide +kernel
theorem dX12_countBlocks_79 : decode cX12_countBlocks 79 = .ok (.iconst 2, 1) := by decide +kernel
theorem dX12_countBlocks_80 : decode cX12_countBlocks 80 = .ok (.irem, 1) := by decide +kernel
theorem dX12_countBlocks_81 : decode cX12_countBlocks 81 = .ok (.iadd, 1) := by decide +kernel
theorem dX12_countBlocks_82 : decode cX12_countBlocks 82 = .ok (.invokevirtual 260, 3) := by decide +kernel
theorem dX12_countBlocks_85 : decode cX12_countBlocks 85 = .ok (.istore 8, 2) := by decide +kernel
theorem dX12_countBlocks_87 : decode cX12_countBlocks 87 = .ok (.iconst 0, 1) := by decide +kernel
theorem dX12_countBlocks_88 : decode cX12_countBlocks 88 = .ok (.istore 9, 2) := by decide +kernel
theorem dX12_countBlocks_90 : decode cX12_countBlocks 90 = .ok (.iload 9, 2) := by decide +kernel
theorem dX12_countBlocks_92 : decode cX12_countBlocks 92 = .ok (.aload_n 0, 1) := by decide +kernel
theorem dX12_countBlocks_93 : decode cX12_countBlocks 93 = .ok (.getfield 301, 3) := by decide +kernel
theorem dX12_countBlocks_96 : decode cX12_countBlocks 96 = .ok (.if_icmp .ge 96, 3) := by decide +kernel
theorem dX12_countBlocks_99 : decode cX12_countBlocks 99 = .ok (.aload_n 0, 1) := by decide +kernel
theorem dX12_countBlocks_100 : decode cX12_countBlocks 100 = .ok (.getfield 91, 3) := by decide +kernel
theorem dX12_countBlocks_103 : decode cX12_countBlocks 103 = .ok (.bipush 64, 2) := by decide +kernel
theorem dX12_countBlocks_105 : decode cX12_countBlocks 105 = .ok (.iload 5, 2) := by decide +kernel
theorem dX12_countBlocks_107 : decode cX12_countBlocks 107 = .ok (.imul, 1) := by decide +kernel
theorem dX12_countBlocks_108 : decode cX12_countBlocks 108 = .ok (.iload 9, 2) := by decide +kernel
theorem dX12_countBlocks_110 : decode cX12_countBlocks 110 = .ok (.iadd, 1) := by decide +kernel
theorem dX12_countBlocks_111 : decode cX12_countBlocks 111 = .ok (.laload, 1) := by decide +kernel
theorem dX12_countBlocks_112 : decode cX12_countBlocks 112 = .ok (.lconst 0, 1) := by decide +kernel
theorem dX12_countBlocks_113 : decode cX12_countBlocks 113 = .ok (.lcmp, 1) := by decide +kernel
theorem dX12_countBlocks_114 : decode cX12_countBlocks 114 = .ok (.ifCond .eq 72, 3) := by decide +kernel
theorem dX12_countBlocks_117 : decode cX12_countBlocks 117 = .ok (.bipush 64, 2) := by decide +kernel
theorem dX12_countBlocks_119 : decode cX12_countBlocks 119 = .ok (.iload_n 2, 1) := by decide +kernel
theorem dX12_countBlocks_120 : decode cX12_countBlocks 120 = .ok (.imul, 1) := by decide +kernel
theorem dX12_countBlocks_121 : decode cX12_countBlocks 121 = .ok (.aload_n 0, 1) := by decide +kernel
theorem dX12_countBlocks_122 : decode cX12_countBlocks 122 = .ok (.aload_n 0, 1) := by decide +kernel
theorem dX12_countBlocks_123 : decode cX12_countBlocks 123 = .ok (.getfield 72, 3) := by decide +kernel
theorem dX12_countBlocks_126 : decode cX12_countBlocks 126 = .ok (.iload 9, 2) := by decide +kernel
theorem dX12_countBlocks_128 : decode cX12_countBlocks 128 = .ok (.iaload, 1) := by decide +kernel
theorem dX12_countBlocks_129 : decode cX12_countBlocks 129 = .ok (.iload 8, 2) := by decide +kernel
theorem dX12_countBlocks_131 : decode cX12_countBlocks 131 = .ok (.invokestatic 257, 3) := by decide +kernel
theorem dX12_countBlocks_134 : decode cX12_countBlocks 134 = .ok (.invokevirtual 346, 3) := by decide +kernel
theorem dX12_countBlocks_137 : decode cX12_countBlocks 137 = .ok (.iadd, 1) := by decide +kernel
theorem dX12_countBlocks_138 : decode cX12_countBlocks 138 = .ok (.istore 10, 2) := by decide +kernel
theorem dX12_countBlocks_140 : decode cX12_countBlocks 140 = .ok (.aload_n 0, 1) := by decide +kernel
theorem dX12_countBlocks_141 : decode cX12_countBlocks 141 = .ok (.getfield 91, 3) := by decide +kernel
theorem dX12_countBlocks_144 : decode cX12_countBlocks 144 = .ok (.iload 10, 2) := by decide +kernel
theorem dX12_countBlocks_146 : decode cX12_countBlocks 146 = .ok (.aload_n 0, 1) := by decide +kernel
theorem dX12_countBlocks_147 : decode cX12_countBlocks 147 = .ok (.getfield 91, 3) := by decide +kernel
theorem dX12_countBlocks_150 : decode cX12_countBlocks 150 = .ok (.iload 10, 2) := by decide +kernel
theorem dX12_countBlocks_152 : decode cX12_countBlocks 152 = .ok (.laload, 1) := by decide +kernel
theorem dX12_countBlocks_153 : decode cX12_countBlocks 153 = .ok (.aload_n 0, 1) := by decide +kernel
theorem dX12_countBlocks_154 : decode cX12_countBlocks 154 = .ok (.getfield 91, 3) := by decide +kernel
theorem dX12_countBlocks_157 : decode cX12_countBlocks 157 = .ok (.bipush 64, 2) := by decide +kernel
theorem dX12_countBlocks_159 : decode cX12_countBlocks 159 = .ok (.iload 5, 2) := by decide +kernel
theorem dX12_countBlocks_161 : decode cX12_countBlocks 161 = .ok (.imul, 1) := by decide +kernel
theorem dX12_countBlocks_162 : decode cX12_countBlocks 162 = .ok (.iload 9, 2) := by decide +kernel
theorem dX12_countBlocks_164 : decode cX12_countBlocks 164 = .ok (.iadd, 1) := by decide +kernel
theorem dX12_countBlocks_165 : decode cX12_countBlocks 165 = .ok (.laload, 1) := by decide +kernel
theorem dX12_countBlocks_166 : decode cX12_countBlocks 166 = .ok (.aload_n 0, 1) := by decide +kernel
theorem dX12_countBlocks_167 : decode cX12_countBlocks 167 = .ok (.getfield 91, 3) := by decide +kernel
theorem dX12_countBlocks_170 : decode cX12_countBlocks 170 = .ok (.bipush 64, 2) := by decide +kernel
theorem dX12_countBlocks_172 : decode cX12_countBlocks 172 = .ok (.iload 4, 2) := by decide +kernel
theorem dX12_countBlocks_174 : decode cX12_countBlocks 174 = .ok (.imul, 1) := by decide +kernel
theorem dX12_countBlocks_175 : decode cX12_countBlocks 175 = .ok (.iload 6, 2) := by decide +kernel
theorem dX12_countBlocks_177 : decode cX12_countBlocks 177 = .ok (.iadd, 1) := by decide +kernel
theorem dX12_countBlocks_178 : decode cX12_countBlocks 178 = .ok (.laload, 1) := by decide +kernel
theorem dX12_countBlocks_179 : decode cX12_countBlocks 179 = .ok (.lmul, 1) := by decide +kernel
theorem dX12_countBlocks_180 : decode cX12_countBlocks 180 = .ok (.ladd, 1) := by decide +kernel
theorem dX12_countBlocks_181 : decode cX12_countBlocks 181 = .ok (.ldc2_w 290, 3) := by decide +kernel
theorem dX12_countBlocks_184 : decode cX12_countBlocks 184 = .ok (.lrem, 1) := by decide +kernel
theorem dX12_countBlocks_185 : decode cX12_countBlocks 185 = .ok (.lastore, 1) := by decide +kernel
theorem dX12_countBlocks_186 : decode cX12_countBlocks 186 = .ok (.iinc 9 1, 3) := by decide +kernel
theorem dX12_countBlocks_189 : decode cX12_countBlocks 189 = .ok (.goto (-99), 3) := by decide +kernel
theorem dX12_countBlocks_192 : decode cX12_countBlocks 192 = .ok (.iinc 7 1, 3) := by decide +kernel
theorem dX12_countBlocks_195 : decode cX12_countBlocks 195 = .ok (.goto (-156), 3) := by decide +kernel
theorem dX12_countBlocks_198 : decode cX12_countBlocks 198 = .ok (.iinc 6 1, 3) := by decide +kernel
theorem dX12_countBlocks_201 : decode cX12_countBlocks 201 = .ok (.goto (-174), 3) := by decide +kernel
theorem dX12_countBlocks_204 : decode cX12_countBlocks 204 = .ok (.iinc 4 1, 3) := by decide +kernel
theorem dX12_countBlocks_207 : decode cX12_countBlocks 207 = .ok (.goto (-204), 3) := by decide +kernel
theorem dX12_countBlocks_210 : decode cX12_countBlocks 210 = .ok (.return_, 1) := by decide +kernel
theorem ggX12_addNode_X12_nodeOf : GoodIn wsX12_addNode wsX12_nodeOf := gdC (gd1 m40_14)
theorem gX12_addNode_X12_nodeOf : GoodIn wsX12_addNode (wsV RX12 314 RX12 yX12_nodeOf wsX12_nodeOf) := gdC (gd4 m40_11 m40_12 m40_13 m1_5 m40_14)
theorem dX12_addNode_0 : decode cX12_addNode 0 = .ok (.iload_n 1, 1) := by decide +kernel
theorem dX12_addNode_1 : decode cX12_addNode 1 = .ok (.iload_n 2, 1) := by decide +kernel
theorem dX12_addNode_2 : decode cX12_addNode 2 = .ok (.if_icmp .gt 48, 3) := by decide +kernel
theorem dX12_addNode_5 : decode cX12_addNode 5 = .ok (.lload 6, 2) := by decide +kernel
theorem dX12_addNode_7 : decode cX12_addNode 7 = .ok (.lconst 0, 1) := by decide +kernel
theorem dX12_addNode_8 : decode cX12_addNode 8 = .ok (.lcmp, 1) := by decide +kernel
theorem dX12_addNode_9 : decode cX12_addNode 9 = .ok (.ifCond .eq 41, 3) := by decide +kernel
theorem dX12_addNode_12 : decode cX12_addNode 12 = .ok (.sipush 128, 3) := by decide +kernel
theorem dX12_addNode_15 : decode cX12_addNode 15 = .ok (.iload_n 1, 1) := by decide +kernel
theorem dX12_addNode_16 : decode cX12_addNode 16 = .ok (.imul, 1) := by decide +kernel
theorem dX12_addNode_17 : decode cX12_addNode 17 = .ok (.aload_n 0, 1) := by decide +kernel
theorem dX12_addNode_18 : decode cX12_addNode 18 = .ok (.iload_n 3, 1) := by decide +kernel
theorem dX12_addNode_19 : decode cX12_addNode 19 = .ok (.iload 4, 2) := by decide +kernel
theorem dX12_addNode_21 : decode cX12_addNode 21 = .ok (.iload 5, 2) := by decide +kernel
theorem dX12_addNode_23 : decode cX12_addNode 23 = .ok (.invokevirtual 314, 3) := by decide +kernel
theorem dX12_addNode_26 : decode cX12_addNode 26 = .ok (.iadd, 1) := by decide +kernel
theorem dX12_addNode_27 : decode cX12_addNode 27 = .ok (.istore 8, 2) := by decide +kernel
theorem dX12_addNode_29 : decode cX12_addNode 29 = .ok (.aload_n 0, 1) := by decide +kernel
theorem dX12_addNode_30 : decode cX12_addNode 30 = .ok (.getfield 97, 3) := by decide +kernel
theorem dX12_addNode_33 : decode cX12_addNode 33 = .ok (.iload 8, 2) := by decide +kernel
theorem dX12_addNode_35 : decode cX12_addNode 35 = .ok (.aload_n 0, 1) := by decide +kernel
theorem dX12_addNode_36 : decode cX12_addNode 36 = .ok (.getfield 97, 3) := by decide +kernel
theorem dX12_addNode_39 : decode cX12_addNode 39 = .ok (.iload 8, 2) := by decide +kernel
theorem dX12_addNode_41 : decode cX12_addNode 41 = .ok (.laload, 1) := by decide +kernel
theorem dX12_addNode_42 : decode cX12_addNode 42 = .ok (.lload 6, 2) := by decide +kernel
theorem dX12_addNode_44 : decode cX12_addNode 44 = .ok (.ladd, 1) := by decide +kernel
theorem dX12_addNode_45 : decode cX12_addNode 45 = .ok (.ldc2_w 290, 3) := by decide +kernel
theorem dX12_addNode_48 : decode cX12_addNode 48 = .ok (.lrem, 1) := by decide +kernel
theorem dX12_addNode_49 : decode cX12_addNode 49 = .ok (.lastore, 1) := by decide +kernel
theorem dX12_addNode_50 : decode cX12_addNode 50 = .ok (.return_, 1) := by decide +kernel
theorem ggX12_findBlocks_X12_block : GoodIn wsX12_findBlocks wsX12_block := gdC (gd1 m33_1)
theorem gX12_findBlocks_X12_block : GoodIn wsX12_findBlocks (wsV RX12 260 RX12 yX12_block wsX12_block) := gdC (gd4 m32_22 m32_23 m33_0 m1_5 m33_1)
theorem ggX12_findBlocks_X12_image : GoodIn wsX12_findBlocks wsX12_image := gdC (gd1 m32_18)
theorem gX12_findBlocks_X12_image : GoodIn wsX12_findBlocks (va_wsS RX12 232 yX12_image wsX12_image) := gdC (gd3 m32_16 m32_17 m1_5 m32_18)
theorem ggX12_findBlocks_X12_follow : GoodIn wsX12_findBlocks wsX12_follow := gdC (gd1 m32_21)
theorem gX12_findBlocks_X12_follow : GoodIn wsX12_findBlocks (va_wsS RX12 257 yX12_follow wsX12_follow) := gdC (gd3 m32_19 m32_20 m1_5 m32_21)
theorem ggX12_findBlocks_X12_nodeOf : GoodIn wsX12_findBlocks wsX12_nodeOf := gdC (gd1 m40_14)
theorem gX12_findBlocks_X12_nodeOf : GoodIn wsX12_findBlocks (wsV RX12 314 RX12 yX12_nodeOf wsX12_nodeOf) := gdC (gd4 m40_11 m40_12 m40_13 m1_5 m40_14)
theorem dX12_findBlocks_0 : decode cX12_findBlocks 0 = .ok (.iconst 0, 1) := by decide +kernel
theorem dX12_findBlocks_1 : decode cX12_findBlocks 1 = .ok (.istore_n 2, 1) := by decide +kernel
theorem dX12_findBlocks_2 : decode cX12_findBlocks 2 = .ok (.iload_n 2, 1) := by decide +kernel
theorem dX12_findBlocks_3 : decode cX12_findBlocks 3 = .ok (.aload_n 0, 1) := by decide +kernel
theorem dX12_findBlocks_4 : decode cX12_findBlocks 4 = .ok (.getfield 311, 3) := by decide +kernel
theorem dX12_findBlocks_7 : decode cX12_findBlocks 7 = .ok (.if_icmp .ge 96, 3) := by decide +kernel
theorem dX12_findBlocks_10 : decode cX12_findBlocks 10 = .ok (.iconst 0, 1) := by decide +kernel
theorem dX12_findBlocks_11 : decode cX12_findBlocks 11 = .ok (.istore_n 3, 1) := by decide +kernel
theorem dX12_findBlocks_12 : decode cX12_findBlocks 12 = .ok (.iload_n 3, 1) := by decide +kernel
theorem dX12_findBlocks_13 : decode cX12_findBlocks 13 = .ok (.iconst 4, 1) := by decide +kernel
theorem dX12_findBlocks_14 : decode cX12_findBlocks 14 = .ok (.aload_n 0, 1) := by decide +kernel
theorem dX12_findBlocks_15 : decode cX12_findBlocks 15 = .ok (.getfield 301, 3) := by decide +kernel
theorem dX12_findBlocks_18 : decode cX12_findBlocks 18 = .ok (.imul, 1) := by decide +kernel
theorem dX12_findBlocks_19 : decode cX12_findBlocks 19 = .ok (.if_icmp .ge 78, 3) := by decide +kernel
theorem dX12_findBlocks_22 : decode cX12_findBlocks 22 = .ok (.aload_n 0, 1) := by decide +kernel
theorem dX12_findBlocks_23 : decode cX12_findBlocks 23 = .ok (.iload_n 1, 1) := by decide +kernel
theorem dX12_findBlocks_24 : decode cX12_findBlocks 24 = .ok (.iload_n 3, 1) := by decide +kernel
