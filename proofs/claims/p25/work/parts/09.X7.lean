theorem dX7_init_0 : decode cX7_init 0 = .ok (.aload_n 0, 1) := by decide +kernel
theorem dX7_init_1 : decode cX7_init 1 = .ok (.invokespecial 3, 3) := by decide +kernel
theorem dX7_init_4 : decode cX7_init 4 = .ok (.aload_n 0, 1) := by decide +kernel
theorem dX7_init_5 : decode cX7_init 5 = .ok (.bipush 75, 2) := by decide +kernel
theorem dX7_init_7 : decode cX7_init 7 = .ok (.newarray .long, 2) := by decide +kernel
theorem dX7_init_9 : decode cX7_init 9 = .ok (.putfield 9, 3) := by decide +kernel
theorem dX7_init_12 : decode cX7_init 12 = .ok (.aload_n 0, 1) := by decide +kernel
theorem dX7_init_13 : decode cX7_init 13 = .ok (.sipush 225, 3) := by decide +kernel
theorem dX7_init_16 : decode cX7_init 16 = .ok (.newarray .long, 2) := by decide +kernel
theorem dX7_init_18 : decode cX7_init 18 = .ok (.putfield 15, 3) := by decide +kernel
theorem dX7_init_21 : decode cX7_init 21 = .ok (.aload_n 0, 1) := by decide +kernel
theorem dX7_init_22 : decode cX7_init 22 = .ok (.bipush 9, 2) := by decide +kernel
theorem dX7_init_24 : decode cX7_init 24 = .ok (.newarray .long, 2) := by decide +kernel
theorem dX7_init_26 : decode cX7_init 26 = .ok (.putfield 18, 3) := by decide +kernel
theorem dX7_init_29 : decode cX7_init 29 = .ok (.aload_n 0, 1) := by decide +kernel
theorem dX7_init_30 : decode cX7_init 30 = .ok (.bipush 9, 2) := by decide +kernel
theorem dX7_init_32 : decode cX7_init 32 = .ok (.newarray .long, 2) := by decide +kernel
theorem dX7_init_34 : decode cX7_init 34 = .ok (.putfield 21, 3) := by decide +kernel
theorem dX7_init_37 : decode cX7_init 37 = .ok (.return_, 1) := by decide +kernel
theorem ggX7_runs_X7_beginSince : GoodIn wsX7_runs wsX7_beginSince := gdC (gd1 m26_20)
theorem gX7_runs_X7_beginSince : GoodIn wsX7_runs (wsV RX7 24 RX7 yX7_beginSince wsX7_beginSince) := gdC (gd4 m26_17 m26_18 m26_19 m2_8 m26_20)
theorem ggX7_runs_X7_step : GoodIn wsX7_runs wsX7_step := gdC (gd1 m27_0)
theorem gX7_runs_X7_step : GoodIn wsX7_runs (wsV RX7 28 RX7 yX7_step wsX7_step) := gdC (gd4 m26_21 m26_22 m26_23 m2_8 m27_0)
theorem dX7_runs_0 : decode cX7_runs 0 = .ok (.aload_n 0, 1) := by decide +kernel
theorem dX7_runs_1 : decode cX7_runs 1 = .ok (.getfield 9, 3) := by decide +kernel
theorem dX7_runs_4 : decode cX7_runs 4 = .ok (.iconst 0, 1) := by decide +kernel
theorem dX7_runs_5 : decode cX7_runs 5 = .ok (.lconst 1, 1) := by decide +kernel
theorem dX7_runs_6 : decode cX7_runs 6 = .ok (.lastore, 1) := by decide +kernel
theorem dX7_runs_7 : decode cX7_runs 7 = .ok (.aload_n 0, 1) := by decide +kernel
theorem dX7_runs_8 : decode cX7_runs 8 = .ok (.getfield 9, 3) := by decide +kernel
theorem dX7_runs_11 : decode cX7_runs 11 = .ok (.iconst 1, 1) := by decide +kernel
theorem dX7_runs_12 : decode cX7_runs 12 = .ok (.lconst 0, 1) := by decide +kernel
theorem dX7_runs_13 : decode cX7_runs 13 = .ok (.lastore, 1) := by decide +kernel
theorem dX7_runs_14 : decode cX7_runs 14 = .ok (.aload_n 0, 1) := by decide +kernel
theorem dX7_runs_15 : decode cX7_runs 15 = .ok (.getfield 9, 3) := by decide +kernel
theorem dX7_runs_18 : decode cX7_runs 18 = .ok (.iconst 2, 1) := by decide +kernel
theorem dX7_runs_19 : decode cX7_runs 19 = .ok (.lconst 0, 1) := by decide +kernel
theorem dX7_runs_20 : decode cX7_runs 20 = .ok (.lastore, 1) := by decide +kernel
theorem dX7_runs_21 : decode cX7_runs 21 = .ok (.aload_n 0, 1) := by decide +kernel
theorem dX7_runs_22 : decode cX7_runs 22 = .ok (.iconst 0, 1) := by decide +kernel
theorem dX7_runs_23 : decode cX7_runs 23 = .ok (.invokevirtual 24, 3) := by decide +kernel
theorem dX7_runs_26 : decode cX7_runs 26 = .ok (.iconst 0, 1) := by decide +kernel
theorem dX7_runs_27 : decode cX7_runs 27 = .ok (.istore 4, 2) := by decide +kernel
theorem dX7_runs_29 : decode cX7_runs 29 = .ok (.iload 4, 2) := by decide +kernel
theorem dX7_runs_31 : decode cX7_runs 31 = .ok (.iload_n 3, 1) := by decide +kernel
theorem dX7_runs_32 : decode cX7_runs 32 = .ok (.if_icmp .ge 24, 3) := by decide +kernel
theorem dX7_runs_35 : decode cX7_runs 35 = .ok (.iload 4, 2) := by decide +kernel
theorem dX7_runs_37 : decode cX7_runs 37 = .ok (.bipush 24, 2) := by decide +kernel
theorem dX7_runs_39 : decode cX7_runs 39 = .ok (.if_icmp .ge 17, 3) := by decide +kernel
theorem dX7_runs_42 : decode cX7_runs 42 = .ok (.aload_n 0, 1) := by decide +kernel
theorem dX7_runs_43 : decode cX7_runs 43 = .ok (.aload_n 1, 1) := by decide +kernel
theorem dX7_runs_44 : decode cX7_runs 44 = .ok (.aload_n 2, 1) := by decide +kernel
theorem dX7_runs_45 : decode cX7_runs 45 = .ok (.iload 4, 2) := by decide +kernel
theorem dX7_runs_47 : decode cX7_runs 47 = .ok (.invokevirtual 28, 3) := by decide +kernel
theorem dX7_runs_50 : decode cX7_runs 50 = .ok (.iinc 4 1, 3) := by decide +kernel
theorem dX7_runs_53 : decode cX7_runs 53 = .ok (.goto (-24), 3) := by decide +kernel
theorem dX7_runs_56 : decode cX7_runs 56 = .ok (.lconst 0, 1) := by decide +kernel
theorem dX7_runs_57 : decode cX7_runs 57 = .ok (.lstore 4, 2) := by decide +kernel
theorem dX7_runs_59 : decode cX7_runs 59 = .ok (.iconst 0, 1) := by decide +kernel
theorem dX7_runs_60 : decode cX7_runs 60 = .ok (.istore 6, 2) := by decide +kernel
theorem dX7_runs_62 : decode cX7_runs 62 = .ok (.iload 6, 2) := by decide +kernel
theorem dX7_runs_64 : decode cX7_runs 64 = .ok (.iconst 3, 1) := by decide +kernel
theorem dX7_runs_65 : decode cX7_runs 65 = .ok (.if_icmp .ge 35, 3) := by decide +kernel
theorem dX7_runs_68 : decode cX7_runs 68 = .ok (.iload_n 3, 1) := by decide +kernel
theorem dX7_runs_69 : decode cX7_runs 69 = .ok (.ifCond .lt 31, 3) := by decide +kernel
theorem dX7_runs_72 : decode cX7_runs 72 = .ok (.iload_n 3, 1) := by decide +kernel
theorem dX7_runs_73 : decode cX7_runs 73 = .ok (.bipush 24, 2) := by decide +kernel
theorem dX7_runs_75 : decode cX7_runs 75 = .ok (.if_icmp .gt 25, 3) := by decide +kernel
theorem dX7_runs_78 : decode cX7_runs 78 = .ok (.lload 4, 2) := by decide +kernel
theorem dX7_runs_80 : decode cX7_runs 80 = .ok (.aload_n 0, 1) := by decide +kernel
theorem dX7_runs_81 : decode cX7_runs 81 = .ok (.getfield 9, 3) := by decide +kernel
theorem dX7_runs_84 : decode cX7_runs 84 = .ok (.iconst 3, 1) := by decide +kernel
theorem dX7_runs_85 : decode cX7_runs 85 = .ok (.iload_n 3, 1) := by decide +kernel
theorem dX7_runs_86 : decode cX7_runs 86 = .ok (.imul, 1) := by decide +kernel
theorem dX7_runs_87 : decode cX7_runs 87 = .ok (.iload 6, 2) := by decide +kernel
theorem dX7_runs_89 : decode cX7_runs 89 = .ok (.iadd, 1) := by decide +kernel
theorem dX7_runs_90 : decode cX7_runs 90 = .ok (.laload, 1) := by decide +kernel
theorem dX7_runs_91 : decode cX7_runs 91 = .ok (.ladd, 1) := by decide +kernel
theorem dX7_runs_92 : decode cX7_runs 92 = .ok (.lstore 4, 2) := by decide +kernel
theorem dX7_runs_94 : decode cX7_runs 94 = .ok (.iinc 6 1, 3) := by decide +kernel
theorem dX7_runs_97 : decode cX7_runs 97 = .ok (.goto (-35), 3) := by decide +kernel
theorem dX7_runs_100 : decode cX7_runs 100 = .ok (.lload 4, 2) := by decide +kernel
theorem dX7_runs_102 : decode cX7_runs 102 = .ok (.ldc2_w 32, 3) := by decide +kernel
theorem dX7_runs_105 : decode cX7_runs 105 = .ok (.lrem, 1) := by decide +kernel
theorem dX7_runs_106 : decode cX7_runs 106 = .ok (.l2i, 1) := by decide +kernel
theorem dX7_runs_107 : decode cX7_runs 107 = .ok (.ireturn, 1) := by decide +kernel
theorem ggX7_step_X6_letterAt : GoodIn wsX7_step wsX6_letterAt := gdC (gd1 m23_21)
theorem gX7_step_X6_letterAt : GoodIn wsX7_step (wsV RX7 34 RX6 yX6_letterAt wsX6_letterAt) := gdC (gd4 m27_1 m23_19 m23_20 m2_0 m23_21)
theorem ggX7_step_X6_openAt : GoodIn wsX7_step wsX6_openAt := gdC (gd1 m23_13)
theorem gX7_step_X6_openAt : GoodIn wsX7_step (wsV RX7 40 RX6 yX6_openAt wsX6_openAt) := gdC (gd4 m27_2 m23_11 m23_12 m2_0 m23_13)
theorem ggX7_step_X7_clear : GoodIn wsX7_step wsX7_clear := gdC (gd1 m27_5)
theorem gX7_step_X7_clear : GoodIn wsX7_step (va_wsS RX7 43 yX7_clear wsX7_clear) := gdC (gd3 m27_3 m27_4 m2_8 m27_5)
theorem ggX7_step_X5_opens : GoodIn wsX7_step wsX5_opens := gdC (gd1 m16_22)
theorem gX7_step_X5_opens : GoodIn wsX7_step (va_wsS RX7 47 yX5_opens wsX5_opens) := gdC (gd3 m27_6 m16_21 m1_15 m16_22)
theorem ggX7_step_X5_way : GoodIn wsX7_step wsX5_way := gdC (gd1 m22_0)
theorem gX7_step_X5_way : GoodIn wsX7_step (wsV RX7 53 RX5 yX5_way wsX5_way) := gdC (gd4 m27_7 m21_22 m21_23 m1_15 m22_0)
theorem ggX7_step_X7_addWay : GoodIn wsX7_step wsX7_addWay := gdC (gd1 m27_11)
theorem gX7_step_X7_addWay : GoodIn wsX7_step (wsV RX7 57 RX7 yX7_addWay wsX7_addWay) := gdC (gd4 m27_8 m27_9 m27_10 m2_8 m27_11)
theorem ggX7_step_X7_goOn : GoodIn wsX7_step wsX7_goOn := gdC (gd1 m27_15)
theorem gX7_step_X7_goOn : GoodIn wsX7_step (wsV RX7 60 RX7 yX7_goOn wsX7_goOn) := gdC (gd4 m27_12 m27_13 m27_14 m2_8 m27_15)
theorem ggX7_step_X7_beginSince : GoodIn wsX7_step wsX7_beginSince := gdC (gd1 m26_20)
theorem gX7_step_X7_beginSince : GoodIn wsX7_step (wsV RX7 24 RX7 yX7_beginSince wsX7_beginSince) := gdC (gd4 m26_17 m26_18 m26_19 m2_8 m26_20)
theorem ggX7_step_X5_isPlain : GoodIn wsX7_step wsX5_isPlain := gdC (gd1 m17_10)
theorem gX7_step_X5_isPlain : GoodIn wsX7_step (va_wsS RX7 64 yX5_isPlain wsX5_isPlain) := gdC (gd3 m27_20 m17_9 m1_15 m17_10)
theorem ggX7_step_X7_addWrapped : GoodIn wsX7_step wsX7_addWrapped := gdC (gd1 m28_0)
theorem gX7_step_X7_addWrapped : GoodIn wsX7_step (wsV RX7 67 RX7 yX7_addWrapped wsX7_addWrapped) := gdC (gd4 m27_21 m27_22 m27_23 m2_8 m28_0)
theorem dX7_step_0 : decode cX7_step 0 = .ok (.aload_n 2, 1) := by decide +kernel
theorem dX7_step_1 : decode cX7_step 1 = .ok (.iload_n 3, 1) := by decide +kernel
theorem dX7_step_2 : decode cX7_step 2 = .ok (.invokevirtual 34, 3) := by decide +kernel
theorem dX7_step_5 : decode cX7_step 5 = .ok (.istore 4, 2) := by decide +kernel
theorem dX7_step_7 : decode cX7_step 7 = .ok (.aload_n 2, 1) := by decide +kernel
theorem dX7_step_8 : decode cX7_step 8 = .ok (.iload_n 3, 1) := by decide +kernel
theorem dX7_step_9 : decode cX7_step 9 = .ok (.invokevirtual 40, 3) := by decide +kernel
theorem dX7_step_12 : decode cX7_step 12 = .ok (.istore 5, 2) := by decide +kernel
theorem dX7_step_14 : decode cX7_step 14 = .ok (.aload_n 0, 1) := by decide +kernel
theorem dX7_step_15 : decode cX7_step 15 = .ok (.getfield 18, 3) := by decide +kernel
theorem dX7_step_18 : decode cX7_step 18 = .ok (.invokestatic 43, 3) := by decide +kernel
theorem dX7_step_21 : decode cX7_step 21 = .ok (.iload 4, 2) := by decide +kernel
theorem dX7_step_23 : decode cX7_step 23 = .ok (.invokestatic 47, 3) := by decide +kernel
theorem dX7_step_26 : decode cX7_step 26 = .ok (.ifCond .eq 43, 3) := by decide +kernel
theorem dX7_step_29 : decode cX7_step 29 = .ok (.aload_n 0, 1) := by decide +kernel
theorem dX7_step_30 : decode cX7_step 30 = .ok (.aload_n 1, 1) := by decide +kernel
theorem dX7_step_31 : decode cX7_step 31 = .ok (.iload 4, 2) := by decide +kernel
theorem dX7_step_33 : decode cX7_step 33 = .ok (.iconst 0, 1) := by decide +kernel
theorem dX7_step_34 : decode cX7_step 34 = .ok (.invokevirtual 53, 3) := by decide +kernel
theorem dX7_step_37 : decode cX7_step 37 = .ok (.invokevirtual 57, 3) := by decide +kernel
theorem dX7_step_40 : decode cX7_step 40 = .ok (.aload_n 0, 1) := by decide +kernel
theorem dX7_step_41 : decode cX7_step 41 = .ok (.aload_n 1, 1) := by decide +kernel
theorem dX7_step_42 : decode cX7_step 42 = .ok (.iload 4, 2) := by decide +kernel
theorem dX7_step_44 : decode cX7_step 44 = .ok (.iconst 1, 1) := by decide +kernel
theorem dX7_step_45 : decode cX7_step 45 = .ok (.invokevirtual 53, 3) := by decide +kernel
theorem dX7_step_48 : decode cX7_step 48 = .ok (.invokevirtual 57, 3) := by decide +kernel
theorem dX7_step_51 : decode cX7_step 51 = .ok (.aload_n 0, 1) := by decide +kernel
theorem dX7_step_52 : decode cX7_step 52 = .ok (.iload_n 3, 1) := by decide +kernel
theorem dX7_step_53 : decode cX7_step 53 = .ok (.iload_n 3, 1) := by decide +kernel
theorem dX7_step_54 : decode cX7_step 54 = .ok (.iconst 1, 1) := by decide +kernel
theorem dX7_step_55 : decode cX7_step 55 = .ok (.iadd, 1) := by decide +kernel
theorem dX7_step_56 : decode cX7_step 56 = .ok (.invokevirtual 60, 3) := by decide +kernel
theorem dX7_step_59 : decode cX7_step 59 = .ok (.aload_n 0, 1) := by decide +kernel
theorem dX7_step_60 : decode cX7_step 60 = .ok (.iload_n 3, 1) := by decide +kernel
theorem dX7_step_61 : decode cX7_step 61 = .ok (.iconst 1, 1) := by decide +kernel
theorem dX7_step_62 : decode cX7_step 62 = .ok (.iadd, 1) := by decide +kernel
theorem dX7_step_63 : decode cX7_step 63 = .ok (.invokevirtual 24, 3) := by decide +kernel
theorem dX7_step_66 : decode cX7_step 66 = .ok (.goto 122, 3) := by decide +kernel
theorem dX7_step_69 : decode cX7_step 69 = .ok (.iload 4, 2) := by decide +kernel
theorem dX7_step_71 : decode cX7_step 71 = .ok (.invokestatic 64, 3) := by decide +kernel
theorem dX7_step_74 : decode cX7_step 74 = .ok (.ifCond .eq 25, 3) := by decide +kernel
theorem dX7_step_77 : decode cX7_step 77 = .ok (.aload_n 0, 1) := by decide +kernel
theorem dX7_step_78 : decode cX7_step 78 = .ok (.aload_n 1, 1) := by decide +kernel
theorem dX7_step_79 : decode cX7_step 79 = .ok (.iload 4, 2) := by decide +kernel
theorem dX7_step_81 : decode cX7_step 81 = .ok (.iconst 0, 1) := by decide +kernel
theorem dX7_step_82 : decode cX7_step 82 = .ok (.invokevirtual 53, 3) := by decide +kernel
theorem dX7_step_85 : decode cX7_step 85 = .ok (.invokevirtual 57, 3) := by decide +kernel
theorem dX7_step_88 : decode cX7_step 88 = .ok (.aload_n 0, 1) := by decide +kernel
theorem dX7_step_89 : decode cX7_step 89 = .ok (.iload_n 3, 1) := by decide +kernel
theorem dX7_step_90 : decode cX7_step 90 = .ok (.iload_n 3, 1) := by decide +kernel
theorem dX7_step_91 : decode cX7_step 91 = .ok (.iconst 1, 1) := by decide +kernel
theorem dX7_step_92 : decode cX7_step 92 = .ok (.iadd, 1) := by decide +kernel
theorem dX7_step_93 : decode cX7_step 93 = .ok (.invokevirtual 60, 3) := by decide +kernel
theorem dX7_step_96 : decode cX7_step 96 = .ok (.goto 92, 3) := by decide +kernel
theorem dX7_step_99 : decode cX7_step 99 = .ok (.iload 5, 2) := by decide +kernel
theorem dX7_step_101 : decode cX7_step 101 = .ok (.ifCond .lt 61, 3) := by decide +kernel
theorem dX7_step_104 : decode cX7_step 104 = .ok (.iload 5, 2) := by decide +kernel
theorem dX7_step_106 : decode cX7_step 106 = .ok (.iload_n 3, 1) := by decide +kernel
theorem dX7_step_107 : decode cX7_step 107 = .ok (.if_icmp .ge 55, 3) := by decide +kernel
theorem dX7_step_110 : decode cX7_step 110 = .ok (.iconst 0, 1) := by decide +kernel
theorem dX7_step_111 : decode cX7_step 111 = .ok (.istore 6, 2) := by decide +kernel
theorem dX7_step_113 : decode cX7_step 113 = .ok (.iload 6, 2) := by decide +kernel
theorem dX7_step_115 : decode cX7_step 115 = .ok (.iconst 2, 1) := by decide +kernel
theorem dX7_step_116 : decode cX7_step 116 = .ok (.if_icmp .ge 34, 3) := by decide +kernel
theorem dX7_step_119 : decode cX7_step 119 = .ok (.aload_n 0, 1) := by decide +kernel
theorem dX7_step_120 : decode cX7_step 120 = .ok (.aload_n 1, 1) := by decide +kernel
theorem dX7_step_121 : decode cX7_step 121 = .ok (.aload_n 2, 1) := by decide +kernel
theorem dX7_step_122 : decode cX7_step 122 = .ok (.iload 5, 2) := by decide +kernel
theorem dX7_step_124 : decode cX7_step 124 = .ok (.invokevirtual 34, 3) := by decide +kernel
theorem dX7_step_127 : decode cX7_step 127 = .ok (.iload 6, 2) := by decide +kernel
theorem dX7_step_129 : decode cX7_step 129 = .ok (.invokevirtual 53, 3) := by decide +kernel
theorem dX7_step_132 : decode cX7_step 132 = .ok (.iload_n 3, 1) := by decide +kernel
theorem dX7_step_133 : decode cX7_step 133 = .ok (.aload_n 1, 1) := by decide +kernel
theorem dX7_step_134 : decode cX7_step 134 = .ok (.iload 4, 2) := by decide +kernel
theorem dX7_step_136 : decode cX7_step 136 = .ok (.iload 6, 2) := by decide +kernel
theorem dX7_step_138 : decode cX7_step 138 = .ok (.invokevirtual 53, 3) := by decide +kernel
theorem dX7_step_141 : decode cX7_step 141 = .ok (.invokevirtual 67, 3) := by decide +kernel
theorem dX7_step_144 : decode cX7_step 144 = .ok (.iinc 6 1, 3) := by decide +kernel
theorem dX7_step_147 : decode cX7_step 147 = .ok (.goto (-34), 3) := by decide +kernel
theorem dX7_step_150 : decode cX7_step 150 = .ok (.aload_n 0, 1) := by decide +kernel
theorem dX7_step_151 : decode cX7_step 151 = .ok (.iload 5, 2) := by decide +kernel
theorem dX7_step_153 : decode cX7_step 153 = .ok (.iload_n 3, 1) := by decide +kernel
theorem dX7_step_154 : decode cX7_step 154 = .ok (.iconst 1, 1) := by decide +kernel
theorem dX7_step_155 : decode cX7_step 155 = .ok (.iadd, 1) := by decide +kernel
theorem dX7_step_156 : decode cX7_step 156 = .ok (.invokevirtual 60, 3) := by decide +kernel
theorem dX7_step_159 : decode cX7_step 159 = .ok (.goto 29, 3) := by decide +kernel
theorem dX7_step_162 : decode cX7_step 162 = .ok (.aload_n 0, 1) := by decide +kernel
theorem dX7_step_163 : decode cX7_step 163 = .ok (.aload_n 1, 1) := by decide +kernel
theorem dX7_step_164 : decode cX7_step 164 = .ok (.iload 4, 2) := by decide +kernel
theorem dX7_step_166 : decode cX7_step 166 = .ok (.iconst (-1), 1) := by decide +kernel
theorem dX7_step_167 : decode cX7_step 167 = .ok (.invokevirtual 53, 3) := by decide +kernel
theorem dX7_step_170 : decode cX7_step 170 = .ok (.invokevirtual 57, 3) := by decide +kernel
theorem dX7_step_173 : decode cX7_step 173 = .ok (.aload_n 0, 1) := by decide +kernel
theorem dX7_step_174 : decode cX7_step 174 = .ok (.iload_n 3, 1) := by decide +kernel
theorem dX7_step_175 : decode cX7_step 175 = .ok (.iload_n 3, 1) := by decide +kernel
theorem dX7_step_176 : decode cX7_step 176 = .ok (.iconst 1, 1) := by decide +kernel
theorem dX7_step_177 : decode cX7_step 177 = .ok (.iadd, 1) := by decide +kernel
theorem dX7_step_178 : decode cX7_step 178 = .ok (.invokevirtual 60, 3) := by decide +kernel
theorem dX7_step_181 : decode cX7_step 181 = .ok (.aload_n 0, 1) := by decide +kernel
theorem dX7_step_182 : decode cX7_step 182 = .ok (.iload_n 3, 1) := by decide +kernel
theorem dX7_step_183 : decode cX7_step 183 = .ok (.iconst 1, 1) := by decide +kernel
theorem dX7_step_184 : decode cX7_step 184 = .ok (.iadd, 1) := by decide +kernel
theorem dX7_step_185 : decode cX7_step 185 = .ok (.invokevirtual 24, 3) := by decide +kernel
theorem dX7_step_188 : decode cX7_step 188 = .ok (.return_, 1) := by decide +kernel
theorem dX7_beginSince_0 : decode cX7_beginSince 0 = .ok (.iconst 0, 1) := by decide +kernel
theorem dX7_beginSince_1 : decode cX7_beginSince 1 = .ok (.istore_n 2, 1) := by decide +kernel
theorem dX7_beginSince_2 : decode cX7_beginSince 2 = .ok (.iload_n 2, 1) := by decide +kernel
theorem dX7_beginSince_3 : decode cX7_beginSince 3 = .ok (.bipush 9, 2) := by decide +kernel
theorem dX7_beginSince_5 : decode cX7_beginSince 5 = .ok (.if_icmp .ge 31, 3) := by decide +kernel
theorem dX7_beginSince_8 : decode cX7_beginSince 8 = .ok (.aload_n 0, 1) := by decide +kernel
theorem dX7_beginSince_9 : decode cX7_beginSince 9 = .ok (.getfield 15, 3) := by decide +kernel
theorem dX7_beginSince_12 : decode cX7_beginSince 12 = .ok (.bipush 9, 2) := by decide +kernel
theorem dX7_beginSince_14 : decode cX7_beginSince 14 = .ok (.iload_n 1, 1) := by decide +kernel
theorem dX7_beginSince_15 : decode cX7_beginSince 15 = .ok (.imul, 1) := by decide +kernel
theorem dX7_beginSince_16 : decode cX7_beginSince 16 = .ok (.iload_n 2, 1) := by decide +kernel
theorem dX7_beginSince_17 : decode cX7_beginSince 17 = .ok (.iadd, 1) := by decide +kernel
theorem dX7_beginSince_18 : decode cX7_beginSince 18 = .ok (.iload_n 2, 1) := by decide +kernel
theorem dX7_beginSince_19 : decode cX7_beginSince 19 = .ok (.iconst 4, 1) := by decide +kernel
theorem dX7_beginSince_20 : decode cX7_beginSince 20 = .ok (.irem, 1) := by decide +kernel
theorem dX7_beginSince_21 : decode cX7_beginSince 21 = .ok (.ifCond .ne 7, 3) := by decide +kernel
theorem dX7_beginSince_24 : decode cX7_beginSince 24 = .ok (.lconst 1, 1) := by decide +kernel
theorem dX7_beginSince_25 : decode cX7_beginSince 25 = .ok (.goto 4, 3) := by decide +kernel
theorem dX7_beginSince_28 : decode cX7_beginSince 28 = .ok (.lconst 0, 1) := by decide +kernel
theorem dX7_beginSince_29 : decode cX7_beginSince 29 = .ok (.lastore, 1) := by decide +kernel
theorem dX7_beginSince_30 : decode cX7_beginSince 30 = .ok (.iinc 2 1, 3) := by decide +kernel
theorem dX7_beginSince_33 : decode cX7_beginSince 33 = .ok (.goto (-31), 3) := by decide +kernel
theorem dX7_beginSince_36 : decode cX7_beginSince 36 = .ok (.return_, 1) := by decide +kernel
theorem dX7_addWay_0 : decode cX7_addWay 0 = .ok (.iconst 0, 1) := by decide +kernel
theorem dX7_addWay_1 : decode cX7_addWay 1 = .ok (.istore_n 2, 1) := by decide +kernel
theorem dX7_addWay_2 : decode cX7_addWay 2 = .ok (.iload_n 2, 1) := by decide +kernel
theorem dX7_addWay_3 : decode cX7_addWay 3 = .ok (.bipush 9, 2) := by decide +kernel
theorem dX7_addWay_5 : decode cX7_addWay 5 = .ok (.if_icmp .ge 24, 3) := by decide +kernel
theorem dX7_addWay_8 : decode cX7_addWay 8 = .ok (.aload_n 0, 1) := by decide +kernel
theorem dX7_addWay_9 : decode cX7_addWay 9 = .ok (.getfield 18, 3) := by decide +kernel
theorem dX7_addWay_12 : decode cX7_addWay 12 = .ok (.iload_n 2, 1) := by decide +kernel
theorem dX7_addWay_13 : decode cX7_addWay 13 = .ok (.dup2, 1) := by decide +kernel
theorem dX7_addWay_14 : decode cX7_addWay 14 = .ok (.laload, 1) := by decide +kernel
theorem dX7_addWay_15 : decode cX7_addWay 15 = .ok (.iload_n 1, 1) := by decide +kernel
theorem dX7_addWay_16 : decode cX7_addWay 16 = .ok (.iload_n 2, 1) := by decide +kernel
theorem dX7_addWay_17 : decode cX7_addWay 17 = .ok (.ishr, 1) := by decide +kernel
theorem dX7_addWay_18 : decode cX7_addWay 18 = .ok (.iconst 1, 1) := by decide +kernel
theorem dX7_addWay_19 : decode cX7_addWay 19 = .ok (.iand, 1) := by decide +kernel
theorem dX7_addWay_20 : decode cX7_addWay 20 = .ok (.i2l, 1) := by decide +kernel
theorem dX7_addWay_21 : decode cX7_addWay 21 = .ok (.ladd, 1) := by decide +kernel
theorem dX7_addWay_22 : decode cX7_addWay 22 = .ok (.lastore, 1) := by decide +kernel
theorem dX7_addWay_23 : decode cX7_addWay 23 = .ok (.iinc 2 1, 3) := by decide +kernel
theorem dX7_addWay_26 : decode cX7_addWay 26 = .ok (.goto (-24), 3) := by decide +kernel
theorem dX7_addWay_29 : decode cX7_addWay 29 = .ok (.return_, 1) := by decide +kernel
theorem ggX7_addWrapped_X7_clear : GoodIn wsX7_addWrapped wsX7_clear := gdC (gd1 m27_5)
theorem gX7_addWrapped_X7_clear : GoodIn wsX7_addWrapped (va_wsS RX7 43 yX7_clear wsX7_clear) := gdC (gd3 m27_3 m27_4 m2_8 m27_5)
theorem dX7_addWrapped_0 : decode cX7_addWrapped 0 = .ok (.iload_n 1, 1) := by decide +kernel
theorem dX7_addWrapped_1 : decode cX7_addWrapped 1 = .ok (.ifCond .eq 7, 3) := by decide +kernel
theorem dX7_addWrapped_4 : decode cX7_addWrapped 4 = .ok (.iload_n 3, 1) := by decide +kernel
theorem dX7_addWrapped_5 : decode cX7_addWrapped 5 = .ok (.ifCond .ne 4, 3) := by decide +kernel
theorem dX7_addWrapped_8 : decode cX7_addWrapped 8 = .ok (.return_, 1) := by decide +kernel
theorem dX7_addWrapped_9 : decode cX7_addWrapped 9 = .ok (.aload_n 0, 1) := by decide +kernel
theorem dX7_addWrapped_10 : decode cX7_addWrapped 10 = .ok (.getfield 21, 3) := by decide +kernel
theorem dX7_addWrapped_13 : decode cX7_addWrapped 13 = .ok (.invokestatic 43, 3) := by decide +kernel
theorem dX7_addWrapped_16 : decode cX7_addWrapped 16 = .ok (.iconst 0, 1) := by decide +kernel
theorem dX7_addWrapped_17 : decode cX7_addWrapped 17 = .ok (.istore 4, 2) := by decide +kernel
theorem dX7_addWrapped_19 : decode cX7_addWrapped 19 = .ok (.iload 4, 2) := by decide +kernel
theorem dX7_addWrapped_21 : decode cX7_addWrapped 21 = .ok (.bipush 27, 2) := by decide +kernel
theorem dX7_addWrapped_23 : decode cX7_addWrapped 23 = .ok (.if_icmp .ge 55, 3) := by decide +kernel
theorem dX7_addWrapped_26 : decode cX7_addWrapped 26 = .ok (.iload_n 1, 1) := by decide +kernel
theorem dX7_addWrapped_27 : decode cX7_addWrapped 27 = .ok (.iload 4, 2) := by decide +kernel
theorem dX7_addWrapped_29 : decode cX7_addWrapped 29 = .ok (.iconst 3, 1) := by decide +kernel
theorem dX7_addWrapped_30 : decode cX7_addWrapped 30 = .ok (.idiv, 1) := by decide +kernel
theorem dX7_addWrapped_31 : decode cX7_addWrapped 31 = .ok (.ishr, 1) := by decide +kernel
theorem dX7_addWrapped_32 : decode cX7_addWrapped 32 = .ok (.iconst 1, 1) := by decide +kernel
theorem dX7_addWrapped_33 : decode cX7_addWrapped 33 = .ok (.iand, 1) := by decide +kernel
theorem dX7_addWrapped_34 : decode cX7_addWrapped 34 = .ok (.ifCond .eq 38, 3) := by decide +kernel
theorem dX7_addWrapped_37 : decode cX7_addWrapped 37 = .ok (.aload_n 0, 1) := by decide +kernel
theorem dX7_addWrapped_38 : decode cX7_addWrapped 38 = .ok (.getfield 21, 3) := by decide +kernel
theorem dX7_addWrapped_41 : decode cX7_addWrapped 41 = .ok (.iload 4, 2) := by decide +kernel
theorem dX7_addWrapped_43 : decode cX7_addWrapped 43 = .ok (.bipush 9, 2) := by decide +kernel
theorem dX7_addWrapped_45 : decode cX7_addWrapped 45 = .ok (.idiv, 1) := by decide +kernel
theorem dX7_addWrapped_46 : decode cX7_addWrapped 46 = .ok (.iconst 3, 1) := by decide +kernel
theorem dX7_addWrapped_47 : decode cX7_addWrapped 47 = .ok (.imul, 1) := by decide +kernel
theorem dX7_addWrapped_48 : decode cX7_addWrapped 48 = .ok (.iload 4, 2) := by decide +kernel
theorem dX7_addWrapped_50 : decode cX7_addWrapped 50 = .ok (.iconst 3, 1) := by decide +kernel
theorem dX7_addWrapped_51 : decode cX7_addWrapped 51 = .ok (.irem, 1) := by decide +kernel
theorem dX7_addWrapped_52 : decode cX7_addWrapped 52 = .ok (.iadd, 1) := by decide +kernel
theorem dX7_addWrapped_53 : decode cX7_addWrapped 53 = .ok (.dup2, 1) := by decide +kernel
theorem dX7_addWrapped_54 : decode cX7_addWrapped 54 = .ok (.laload, 1) := by decide +kernel
theorem dX7_addWrapped_55 : decode cX7_addWrapped 55 = .ok (.aload_n 0, 1) := by decide +kernel
theorem dX7_addWrapped_56 : decode cX7_addWrapped 56 = .ok (.getfield 15, 3) := by decide +kernel
theorem dX7_addWrapped_59 : decode cX7_addWrapped 59 = .ok (.bipush 9, 2) := by decide +kernel
theorem dX7_addWrapped_61 : decode cX7_addWrapped 61 = .ok (.iload_n 2, 1) := by decide +kernel
theorem dX7_addWrapped_62 : decode cX7_addWrapped 62 = .ok (.imul, 1) := by decide +kernel
theorem dX7_addWrapped_63 : decode cX7_addWrapped 63 = .ok (.iload 4, 2) := by decide +kernel
theorem dX7_addWrapped_65 : decode cX7_addWrapped 65 = .ok (.bipush 9, 2) := by decide +kernel
theorem dX7_addWrapped_67 : decode cX7_addWrapped 67 = .ok (.irem, 1) := by decide +kernel
theorem dX7_addWrapped_68 : decode cX7_addWrapped 68 = .ok (.iadd, 1) := by decide +kernel
theorem dX7_addWrapped_69 : decode cX7_addWrapped 69 = .ok (.laload, 1) := by decide +kernel
theorem dX7_addWrapped_70 : decode cX7_addWrapped 70 = .ok (.ladd, 1) := by decide +kernel
theorem dX7_addWrapped_71 : decode cX7_addWrapped 71 = .ok (.lastore, 1) := by decide +kernel
theorem dX7_addWrapped_72 : decode cX7_addWrapped 72 = .ok (.iinc 4 1, 3) := by decide +kernel
theorem dX7_addWrapped_75 : decode cX7_addWrapped 75 = .ok (.goto (-56), 3) := by decide +kernel
theorem dX7_addWrapped_78 : decode cX7_addWrapped 78 = .ok (.iconst 0, 1) := by decide +kernel
theorem dX7_addWrapped_79 : decode cX7_addWrapped 79 = .ok (.istore 4, 2) := by decide +kernel
theorem dX7_addWrapped_81 : decode cX7_addWrapped 81 = .ok (.iload 4, 2) := by decide +kernel
theorem dX7_addWrapped_83 : decode cX7_addWrapped 83 = .ok (.bipush 27, 2) := by decide +kernel
theorem dX7_addWrapped_85 : decode cX7_addWrapped 85 = .ok (.if_icmp .ge 63, 3) := by decide +kernel
theorem dX7_addWrapped_88 : decode cX7_addWrapped 88 = .ok (.iload_n 3, 1) := by decide +kernel
theorem dX7_addWrapped_89 : decode cX7_addWrapped 89 = .ok (.iload 4, 2) := by decide +kernel
theorem dX7_addWrapped_91 : decode cX7_addWrapped 91 = .ok (.bipush 9, 2) := by decide +kernel
theorem dX7_addWrapped_93 : decode cX7_addWrapped 93 = .ok (.irem, 1) := by decide +kernel
theorem dX7_addWrapped_94 : decode cX7_addWrapped 94 = .ok (.ishr, 1) := by decide +kernel
theorem dX7_addWrapped_95 : decode cX7_addWrapped 95 = .ok (.iconst 1, 1) := by decide +kernel
theorem dX7_addWrapped_96 : decode cX7_addWrapped 96 = .ok (.iand, 1) := by decide +kernel
theorem dX7_addWrapped_97 : decode cX7_addWrapped 97 = .ok (.ifCond .eq 45, 3) := by decide +kernel
theorem dX7_addWrapped_100 : decode cX7_addWrapped 100 = .ok (.iload 4, 2) := by decide +kernel
theorem dX7_addWrapped_102 : decode cX7_addWrapped 102 = .ok (.bipush 9, 2) := by decide +kernel
theorem dX7_addWrapped_104 : decode cX7_addWrapped 104 = .ok (.idiv, 1) := by decide +kernel
theorem dX7_addWrapped_105 : decode cX7_addWrapped 105 = .ok (.iconst 3, 1) := by decide +kernel
theorem dX7_addWrapped_106 : decode cX7_addWrapped 106 = .ok (.imul, 1) := by decide +kernel
theorem dX7_addWrapped_107 : decode cX7_addWrapped 107 = .ok (.iload 4, 2) := by decide +kernel
theorem dX7_addWrapped_109 : decode cX7_addWrapped 109 = .ok (.iconst 3, 1) := by decide +kernel
theorem dX7_addWrapped_110 : decode cX7_addWrapped 110 = .ok (.irem, 1) := by decide +kernel
theorem dX7_addWrapped_111 : decode cX7_addWrapped 111 = .ok (.iadd, 1) := by decide +kernel
theorem dX7_addWrapped_112 : decode cX7_addWrapped 112 = .ok (.istore 5, 2) := by decide +kernel
theorem dX7_addWrapped_114 : decode cX7_addWrapped 114 = .ok (.aload_n 0, 1) := by decide +kernel
theorem dX7_addWrapped_115 : decode cX7_addWrapped 115 = .ok (.getfield 18, 3) := by decide +kernel
theorem dX7_addWrapped_118 : decode cX7_addWrapped 118 = .ok (.iload 5, 2) := by decide +kernel
theorem dX7_addWrapped_120 : decode cX7_addWrapped 120 = .ok (.aload_n 0, 1) := by decide +kernel
theorem dX7_addWrapped_121 : decode cX7_addWrapped 121 = .ok (.getfield 18, 3) := by decide +kernel
theorem dX7_addWrapped_124 : decode cX7_addWrapped 124 = .ok (.iload 5, 2) := by decide +kernel
theorem dX7_addWrapped_126 : decode cX7_addWrapped 126 = .ok (.laload, 1) := by decide +kernel
theorem dX7_addWrapped_127 : decode cX7_addWrapped 127 = .ok (.aload_n 0, 1) := by decide +kernel
theorem dX7_addWrapped_128 : decode cX7_addWrapped 128 = .ok (.getfield 21, 3) := by decide +kernel
theorem dX7_addWrapped_131 : decode cX7_addWrapped 131 = .ok (.iload 4, 2) := by decide +kernel
theorem dX7_addWrapped_133 : decode cX7_addWrapped 133 = .ok (.iconst 3, 1) := by decide +kernel
theorem dX7_addWrapped_134 : decode cX7_addWrapped 134 = .ok (.idiv, 1) := by decide +kernel
theorem dX7_addWrapped_135 : decode cX7_addWrapped 135 = .ok (.laload, 1) := by decide +kernel
theorem dX7_addWrapped_136 : decode cX7_addWrapped 136 = .ok (.ladd, 1) := by decide +kernel
theorem dX7_addWrapped_137 : decode cX7_addWrapped 137 = .ok (.ldc2_w 32, 3) := by decide +kernel
theorem dX7_addWrapped_140 : decode cX7_addWrapped 140 = .ok (.lrem, 1) := by decide +kernel
theorem dX7_addWrapped_141 : decode cX7_addWrapped 141 = .ok (.lastore, 1) := by decide +kernel
theorem dX7_addWrapped_142 : decode cX7_addWrapped 142 = .ok (.iinc 4 1, 3) := by decide +kernel
theorem dX7_addWrapped_145 : decode cX7_addWrapped 145 = .ok (.goto (-64), 3) := by decide +kernel
theorem dX7_addWrapped_148 : decode cX7_addWrapped 148 = .ok (.return_, 1) := by decide +kernel
theorem ggX7_goOn_X7_times : GoodIn wsX7_goOn wsX7_times := gdC (gd1 m27_19)
theorem gX7_goOn_X7_times : GoodIn wsX7_goOn (wsV RX7 71 RX7 yX7_times wsX7_times) := gdC (gd4 m27_16 m27_17 m27_18 m2_8 m27_19)
theorem dX7_goOn_0 : decode cX7_goOn 0 = .ok (.aload_n 0, 1) := by decide +kernel
theorem dX7_goOn_1 : decode cX7_goOn 1 = .ok (.aload_n 0, 1) := by decide +kernel
theorem dX7_goOn_2 : decode cX7_goOn 2 = .ok (.getfield 9, 3) := by decide +kernel
theorem dX7_goOn_5 : decode cX7_goOn 5 = .ok (.iconst 3, 1) := by decide +kernel
theorem dX7_goOn_6 : decode cX7_goOn 6 = .ok (.iload_n 1, 1) := by decide +kernel
theorem dX7_goOn_7 : decode cX7_goOn 7 = .ok (.imul, 1) := by decide +kernel
theorem dX7_goOn_8 : decode cX7_goOn 8 = .ok (.iconst 3, 1) := by decide +kernel
theorem dX7_goOn_9 : decode cX7_goOn 9 = .ok (.iload_n 2, 1) := by decide +kernel
theorem dX7_goOn_10 : decode cX7_goOn 10 = .ok (.imul, 1) := by decide +kernel
theorem dX7_goOn_11 : decode cX7_goOn 11 = .ok (.iconst 1, 1) := by decide +kernel
theorem dX7_goOn_12 : decode cX7_goOn 12 = .ok (.invokevirtual 71, 3) := by decide +kernel
theorem dX7_goOn_15 : decode cX7_goOn 15 = .ok (.aload_n 0, 1) := by decide +kernel
theorem dX7_goOn_16 : decode cX7_goOn 16 = .ok (.aload_n 0, 1) := by decide +kernel
theorem dX7_goOn_17 : decode cX7_goOn 17 = .ok (.getfield 15, 3) := by decide +kernel
theorem dX7_goOn_20 : decode cX7_goOn 20 = .ok (.bipush 9, 2) := by decide +kernel
theorem dX7_goOn_22 : decode cX7_goOn 22 = .ok (.iload_n 1, 1) := by decide +kernel
theorem dX7_goOn_23 : decode cX7_goOn 23 = .ok (.imul, 1) := by decide +kernel
theorem dX7_goOn_24 : decode cX7_goOn 24 = .ok (.bipush 9, 2) := by decide +kernel
theorem dX7_goOn_26 : decode cX7_goOn 26 = .ok (.iload_n 2, 1) := by decide +kernel
theorem dX7_goOn_27 : decode cX7_goOn 27 = .ok (.imul, 1) := by decide +kernel
theorem dX7_goOn_28 : decode cX7_goOn 28 = .ok (.iconst 3, 1) := by decide +kernel
theorem dX7_goOn_29 : decode cX7_goOn 29 = .ok (.invokevirtual 71, 3) := by decide +kernel
theorem dX7_goOn_32 : decode cX7_goOn 32 = .ok (.return_, 1) := by decide +kernel
theorem dX7_times_0 : decode cX7_times 0 = .ok (.iconst 0, 1) := by decide +kernel
theorem dX7_times_1 : decode cX7_times 1 = .ok (.istore 5, 2) := by decide +kernel
theorem dX7_times_3 : decode cX7_times 3 = .ok (.iload 5, 2) := by decide +kernel
theorem dX7_times_5 : decode cX7_times 5 = .ok (.iconst 3, 1) := by decide +kernel
theorem dX7_times_6 : decode cX7_times 6 = .ok (.iload 4, 2) := by decide +kernel
theorem dX7_times_8 : decode cX7_times 8 = .ok (.imul, 1) := by decide +kernel
theorem dX7_times_9 : decode cX7_times 9 = .ok (.if_icmp .ge 84, 3) := by decide +kernel
theorem dX7_times_12 : decode cX7_times 12 = .ok (.iload 5, 2) := by decide +kernel
theorem dX7_times_14 : decode cX7_times 14 = .ok (.iconst 3, 1) := by decide +kernel
theorem dX7_times_15 : decode cX7_times 15 = .ok (.idiv, 1) := by decide +kernel
theorem dX7_times_16 : decode cX7_times 16 = .ok (.iconst 3, 1) := by decide +kernel
theorem dX7_times_17 : decode cX7_times 17 = .ok (.imul, 1) := by decide +kernel
theorem dX7_times_18 : decode cX7_times 18 = .ok (.istore 6, 2) := by decide +kernel
theorem dX7_times_20 : decode cX7_times 20 = .ok (.lconst 0, 1) := by decide +kernel
theorem dX7_times_21 : decode cX7_times 21 = .ok (.lstore 7, 2) := by decide +kernel
theorem dX7_times_23 : decode cX7_times 23 = .ok (.iconst 0, 1) := by decide +kernel
theorem dX7_times_24 : decode cX7_times 24 = .ok (.istore 9, 2) := by decide +kernel
theorem dX7_times_26 : decode cX7_times 26 = .ok (.iload 9, 2) := by decide +kernel
theorem dX7_times_28 : decode cX7_times 28 = .ok (.iconst 3, 1) := by decide +kernel
theorem dX7_times_29 : decode cX7_times 29 = .ok (.if_icmp .ge 46, 3) := by decide +kernel
theorem dX7_times_32 : decode cX7_times 32 = .ok (.lload 7, 2) := by decide +kernel
theorem dX7_times_34 : decode cX7_times 34 = .ok (.aload_n 1, 1) := by decide +kernel
theorem dX7_times_35 : decode cX7_times 35 = .ok (.iload_n 2, 1) := by decide +kernel
theorem dX7_times_36 : decode cX7_times 36 = .ok (.iload 6, 2) := by decide +kernel
theorem dX7_times_38 : decode cX7_times 38 = .ok (.iadd, 1) := by decide +kernel
theorem dX7_times_39 : decode cX7_times 39 = .ok (.iload 9, 2) := by decide +kernel
theorem dX7_times_41 : decode cX7_times 41 = .ok (.iadd, 1) := by decide +kernel
theorem dX7_times_42 : decode cX7_times 42 = .ok (.laload, 1) := by decide +kernel
theorem dX7_times_43 : decode cX7_times 43 = .ok (.ldc2_w 32, 3) := by decide +kernel
theorem dX7_times_46 : decode cX7_times 46 = .ok (.lrem, 1) := by decide +kernel
theorem dX7_times_47 : decode cX7_times 47 = .ok (.aload_n 0, 1) := by decide +kernel
theorem dX7_times_48 : decode cX7_times 48 = .ok (.getfield 18, 3) := by decide +kernel
theorem dX7_times_51 : decode cX7_times 51 = .ok (.iconst 3, 1) := by decide +kernel
theorem dX7_times_52 : decode cX7_times 52 = .ok (.iload 9, 2) := by decide +kernel
theorem dX7_times_54 : decode cX7_times 54 = .ok (.imul, 1) := by decide +kernel
theorem dX7_times_55 : decode cX7_times 55 = .ok (.iload 5, 2) := by decide +kernel
theorem dX7_times_57 : decode cX7_times 57 = .ok (.iconst 3, 1) := by decide +kernel
theorem dX7_times_58 : decode cX7_times 58 = .ok (.irem, 1) := by decide +kernel
theorem dX7_times_59 : decode cX7_times 59 = .ok (.iadd, 1) := by decide +kernel
theorem dX7_times_60 : decode cX7_times 60 = .ok (.laload, 1) := by decide +kernel
theorem dX7_times_61 : decode cX7_times 61 = .ok (.lmul, 1) := by decide +kernel
theorem dX7_times_62 : decode cX7_times 62 = .ok (.ldc2_w 32, 3) := by decide +kernel
theorem dX7_times_65 : decode cX7_times 65 = .ok (.lrem, 1) := by decide +kernel
theorem dX7_times_66 : decode cX7_times 66 = .ok (.ladd, 1) := by decide +kernel
theorem dX7_times_67 : decode cX7_times 67 = .ok (.lstore 7, 2) := by decide +kernel
theorem dX7_times_69 : decode cX7_times 69 = .ok (.iinc 9 1, 3) := by decide +kernel
theorem dX7_times_72 : decode cX7_times 72 = .ok (.goto (-46), 3) := by decide +kernel
theorem dX7_times_75 : decode cX7_times 75 = .ok (.aload_n 1, 1) := by decide +kernel
theorem dX7_times_76 : decode cX7_times 76 = .ok (.iload_n 3, 1) := by decide +kernel
theorem dX7_times_77 : decode cX7_times 77 = .ok (.iload 5, 2) := by decide +kernel
theorem dX7_times_79 : decode cX7_times 79 = .ok (.iadd, 1) := by decide +kernel
theorem dX7_times_80 : decode cX7_times 80 = .ok (.lload 7, 2) := by decide +kernel
theorem dX7_times_82 : decode cX7_times 82 = .ok (.ldc2_w 32, 3) := by decide +kernel
theorem dX7_times_85 : decode cX7_times 85 = .ok (.lrem, 1) := by decide +kernel
theorem dX7_times_86 : decode cX7_times 86 = .ok (.lastore, 1) := by decide +kernel
theorem dX7_times_87 : decode cX7_times 87 = .ok (.iinc 5 1, 3) := by decide +kernel
theorem dX7_times_90 : decode cX7_times 90 = .ok (.goto (-87), 3) := by decide +kernel
theorem dX7_times_93 : decode cX7_times 93 = .ok (.return_, 1) := by decide +kernel
theorem dX7_clear_0 : decode cX7_clear 0 = .ok (.iconst 0, 1) := by decide +kernel
theorem dX7_clear_1 : decode cX7_clear 1 = .ok (.istore_n 1, 1) := by decide +kernel
theorem dX7_clear_2 : decode cX7_clear 2 = .ok (.iload_n 1, 1) := by decide +kernel
theorem dX7_clear_3 : decode cX7_clear 3 = .ok (.aload_n 0, 1) := by decide +kernel
theorem dX7_clear_4 : decode cX7_clear 4 = .ok (.arraylength, 1) := by decide +kernel
theorem dX7_clear_5 : decode cX7_clear 5 = .ok (.if_icmp .ge 13, 3) := by decide +kernel
theorem dX7_clear_8 : decode cX7_clear 8 = .ok (.aload_n 0, 1) := by decide +kernel
theorem dX7_clear_9 : decode cX7_clear 9 = .ok (.iload_n 1, 1) := by decide +kernel
theorem dX7_clear_10 : decode cX7_clear 10 = .ok (.lconst 0, 1) := by decide +kernel
theorem dX7_clear_11 : decode cX7_clear 11 = .ok (.lastore, 1) := by decide +kernel
theorem dX7_clear_12 : decode cX7_clear 12 = .ok (.iinc 1 1, 3) := by decide +kernel
theorem dX7_clear_15 : decode cX7_clear 15 = .ok (.goto (-13), 3) := by decide +kernel
theorem dX7_clear_18 : decode cX7_clear 18 = .ok (.return_, 1) := by decide +kernel
def wX7_beginSince_L2 (p0 : Int32) (E2 : Int32 → (Nat → Int64) → Prop) (i2_2 : Int32) (A_since_2 : Nat → Int64) : Prop :=
  ∀ P2 : Int32 → (Nat → Int64) → Prop, (∀ (i2_2 : Int32) (A_since_2 : Nat → Int64), (((9 : Int32) ≤ i2_2 → E2 i2_2 A_since_2) ∧ (¬ (9 : Int32) ≤ i2_2 → (((i2_2 - i2_2 / (4 : Int32) * (4 : Int32)) = (0 : Int32) → (vp_in (((9 : Int32) * p0) + i2_2) 225 ∧ (∀ g5 : Nat → Int64, g5 = vp_updL A_since_2 (((9 : Int32) * p0) + i2_2).toNatClampNeg (1 : Int64) → (∀ x6 : Int32, x6 = i2_2 + (1 : Int32) → P2 x6 g5)))) ∧ (¬ (i2_2 - i2_2 / (4 : Int32) * (4 : Int32)) = (0 : Int32) → (vp_in (((9 : Int32) * p0) + i2_2) 225 ∧ (∀ g3 : Nat → Int64, g3 = vp_updL A_since_2 (((9 : Int32) * p0) + i2_2).toNatClampNeg (0 : Int64) → (∀ x4 : Int32, x4 = i2_2 + (1 : Int32) → P2 x4 g3))))))) → P2 i2_2 A_since_2) → P2 i2_2 A_since_2
def wX7_beginSince (p0 : Int32) (A_since : Nat → Int64) (K : (Nat → Int64) → Prop) : Prop :=
  (wX7_beginSince_L2 p0 (fun i2_2 A_since_2 => K A_since_2) (0 : Int32) A_since)
abbrev rmX7_beginSince : Room := { frames := 0, cells := 0, slots := 0, locals := 0 }
theorem nd_X7_beginSince : yX7_beginSince.cls = RX7 ∧ yX7_beginSince.cls ≠ "java/lang/invoke/MethodHandle" ∧ yX7_beginSince.cls ≠ "java/lang/invoke/VarHandle" ∧ (parseMethodDescriptor yX7_beginSince.desc).map (fun d => d.parameters.length) = some 1 := by decide +kernel
theorem hkX7_beginSince_X7 : ∀ w ∈ u_ws RX7 TX7 4, w ∈ wsX7_beginSince := fun w h => List.mem_cons_of_mem _ (inlX7 w h)
theorem hfX7_beginSince_15 : (Cond.fieldLink RX7 15 "NestReaders$RunCount" "since" "[J") ∈ wsX7_beginSince := List.mem_cons_of_mem _ m5_0
set_option maxHeartbeats 4000000 in
set_option maxRecDepth 100000 in
theorem c_X7_beginSince (l : Launch) (G : va_G) (cI cJ cZ : ClassId) (q_t q_t_come q_t_since q_t_factor q_t_half : Nat) (sz : Nat) (A_since : Nat → Int64) (p0 : Int32) {K : (Nat → Int64) → Prop} (hw : wX7_beginSince p0 A_since K) : Met l yX7_beginSince wsX7_beginSince rmX7_beginSince (ms_Pz G (ms_T cI cJ cZ) [(q_t, .inr (7, [.ref q_t_come, .ref q_t_since, .ref q_t_factor, .ref q_t_half])), (q_t_since, .inl (cJ, 225, .inr (.inl A_since)))] sz [.ref q_t, .int p0]) (ms_Wv G (ms_T cI cJ cZ) (fun (u : (Nat → Int64)) => K u) (fun u : (Nat → Int64) => [(q_t, .inr (7, [.ref q_t_come, .ref q_t_since, .ref q_t_factor, .ref q_t_half])), (q_t_since, .inl (cJ, 225, .inr (.inl u)))]) (va_A [(q_t, .inr (7, [.ref q_t_come, .ref q_t_since, .ref q_t_factor, .ref q_t_half])), (q_t_since, .inl (cJ, 225, .inr (.inl A_since)))] sz)) 0 0 (va_A [(q_t, .inr (7, [.ref q_t_come, .ref q_t_since, .ref q_t_factor, .ref q_t_half])), (q_t_since, .inl (cJ, 225, .inr (.inl A_since)))] sz) := by
  refine ms_tv (cc := cX7_beginSince) (maxL := 3) (by decide) rfl (Nat.le_of_ble_eq_true rfl) ?_
  intro p e s m args below meth c Q A hx hb hml hown hts hK hP hD hS hA hRet ls hl
  have hl : lv_has ls 3 [(0, .ref q_t), (1, .int p0)] := hl
  have hown : s.vm.findClass RX7 = some m.cls := hown
  refine lv_iconst (v := 0) hx hb dX7_beginSince_0 (by decide) ?_
  refine lv_istore_n (lv' := [(2, .int (0 : Int32)), (0, .ref q_t), (1, .int p0)]) hx hb dX7_beginSince_1 rfl hl (by decide) rfl (fun ls hl => ?_)
  refine hw (fun i2_2 A_since_2 => ∀ (H : Heap) (locs : List Loc), va_P G vwCl [(q_t, .inr (7, [.ref q_t_come, .ref q_t_since, .ref q_t_factor, .ref q_t_half])), (q_t_since, .inl (cJ, 225, .inr (.inl A_since_2)))] H → va_D A [(q_t, .inr (7, [.ref q_t_come, .ref q_t_since, .ref q_t_factor, .ref q_t_half])), (q_t_since, .inl (cJ, 225, .inr (.inl A_since_2)))] → va_S A s.heap H locs → ∀ ls : Array Slot, lv_has ls 3 [(0, .ref q_t), (1, .int p0), (2, .int i2_2)] → W p l e rmX7_beginSince s m args below meth c H locs 0 0 Q (F0 m 2 ls [])) (fun i2_2 A_since_2 hw H locs hP hD hS ls hl => ?_) s.heap [] hP hD hS ls (lv_sub hl [1, 2, 0] rfl)
  refine lv_iload_n hx hb dX7_beginSince_2 rfl (lv_at hl 2 rfl) ?_
  refine lv_bipush (v := (9)) hx hb dX7_beginSince_3 (by decide) ?_
  refine lv_icmp_ge (tgt := 36) hx hb dX7_beginSince_5 (by decide) (fun c1 => ?_) (fun c1 => ?_)
  · have hw := hw.1 c1
    exact hRet A_since_2 H locs _ _ hw hP hD hS dX7_beginSince_36
  · have hw := hw.2 c1
    refine lv_aload_n hx hb dX7_beginSince_8 rfl (lv_at hl 0 rfl) ?_
    refine va_get (D := G) (ci := 7) (v := .ref q_t_since) (C := RX7) (T := TX7) (N := 4) hx hb hts hkX7_beginSince_X7 hown hK hP 0 rfl rfl 1 (by decide) (hts (.fieldLink RX7 15 "NestReaders$RunCount" "since" "[J") hfX7_beginSince_15) (fun _ h9 => h9) rfl dX7_beginSince_9 ?_
    refine lv_bipush (v := (9)) hx hb dX7_beginSince_12 (by decide) ?_
    refine lv_iload_n hx hb dX7_beginSince_14 rfl (lv_at hl 1 rfl) ?_
    refine lv_imul hx hb dX7_beginSince_15 ?_
    refine lv_iload_n hx hb dX7_beginSince_16 rfl (lv_at hl 2 rfl) ?_
    refine lv_iadd hx hb dX7_beginSince_17 ?_
    refine lv_iload_n hx hb dX7_beginSince_18 rfl (lv_at hl 2 rfl) ?_
    refine lv_iconst (v := 4) hx hb dX7_beginSince_19 (by decide) ?_
    refine lv_irem hx hb dX7_beginSince_20 (by decide) ?_
    refine lv_if_ne (tgt := 28) hx hb dX7_beginSince_21 (by decide) (fun c2 => ?_) (fun c2 => ?_)
    · have hw := hw.2 c2
      refine lv_lconst (v := 0) hx hb dX7_beginSince_28 (by decide) ?_
      refine ms_last hx hb hK hP hD hS 1 1 rfl rfl hw.1 dX7_beginSince_29 (fun g3 H locs eg3 hP hD hS => ?_)
      have hw := hw.2 g3 eg3
      have hP : va_P G vwCl [(q_t, .inr (7, [.ref q_t_come, .ref q_t_since, .ref q_t_factor, .ref q_t_half])), (q_t_since, .inl (cJ, 225, .inr (.inl g3)))] H := hP
      have hD : va_D A [(q_t, .inr (7, [.ref q_t_come, .ref q_t_since, .ref q_t_factor, .ref q_t_half])), (q_t_since, .inl (cJ, 225, .inr (.inl g3)))] := hD
      obtain ⟨x4, ex4⟩ : ∃ y : Int32, y = i2_2 + (1 : Int32) := ⟨_, rfl⟩
      have hw := hw x4 ex4
      refine lv_iinc (v := x4) (lv' := [(2, .int x4), (0, .ref q_t), (1, .int p0)]) hx hb dX7_beginSince_30 hl (k := 2) rfl (by rw [ex4]; rfl) (by decide) rfl (fun ls hl => ?_)
      refine lv_goto (tgt := 2) hx hb dX7_beginSince_33 (by decide) ?_
      exact hw H locs hP hD hS ls (lv_sub hl [1, 2, 0] rfl)
    · have hw := hw.1 c2
      refine lv_lconst (v := 1) hx hb dX7_beginSince_24 (by decide) ?_
      refine lv_goto (tgt := 29) hx hb dX7_beginSince_25 (by decide) ?_
      refine ms_last hx hb hK hP hD hS 1 1 rfl rfl hw.1 dX7_beginSince_29 (fun g5 H locs eg5 hP hD hS => ?_)
      have hw := hw.2 g5 eg5
      have hP : va_P G vwCl [(q_t, .inr (7, [.ref q_t_come, .ref q_t_since, .ref q_t_factor, .ref q_t_half])), (q_t_since, .inl (cJ, 225, .inr (.inl g5)))] H := hP
      have hD : va_D A [(q_t, .inr (7, [.ref q_t_come, .ref q_t_since, .ref q_t_factor, .ref q_t_half])), (q_t_since, .inl (cJ, 225, .inr (.inl g5)))] := hD
      obtain ⟨x6, ex6⟩ : ∃ y : Int32, y = i2_2 + (1 : Int32) := ⟨_, rfl⟩
      have hw := hw x6 ex6
      refine lv_iinc (v := x6) (lv' := [(2, .int x6), (0, .ref q_t), (1, .int p0)]) hx hb dX7_beginSince_30 hl (k := 2) rfl (by rw [ex6]; rfl) (by decide) rfl (fun ls hl => ?_)
      refine lv_goto (tgt := 2) hx hb dX7_beginSince_33 (by decide) ?_
      exact hw H locs hP hD hS ls (lv_sub hl [1, 2, 0] rfl)
def wX7_addWay_L2 (p0 : Int32) (E2 : Int32 → (Nat → Int64) → Prop) (i2_2 : Int32) (A_factor_2 : Nat → Int64) : Prop :=
  ∀ P2 : Int32 → (Nat → Int64) → Prop, (∀ (i2_2 : Int32) (A_factor_2 : Nat → Int64), (((9 : Int32) ≤ i2_2 → E2 i2_2 A_factor_2) ∧ (¬ (9 : Int32) ≤ i2_2 → (vp_in i2_2 9 ∧ (∀ x2 : Int64, x2 = ((A_factor_2 i2_2.toNatClampNeg) + (((p0 >>> (i2_2 &&& 31)) &&& (1 : Int32))).toInt64) → (vp_in i2_2 9 ∧ (∀ g3 : Nat → Int64, g3 = vp_updL A_factor_2 i2_2.toNatClampNeg x2 → (∀ x4 : Int32, x4 = i2_2 + (1 : Int32) → P2 x4 g3))))))) → P2 i2_2 A_factor_2) → P2 i2_2 A_factor_2
def wX7_addWay (p0 : Int32) (A_factor : Nat → Int64) (K : (Nat → Int64) → Prop) : Prop :=
  (wX7_addWay_L2 p0 (fun i2_2 A_factor_2 => K A_factor_2) (0 : Int32) A_factor)
abbrev rmX7_addWay : Room := { frames := 0, cells := 0, slots := 0, locals := 0 }
theorem nd_X7_addWay : yX7_addWay.cls = RX7 ∧ yX7_addWay.cls ≠ "java/lang/invoke/MethodHandle" ∧ yX7_addWay.cls ≠ "java/lang/invoke/VarHandle" ∧ (parseMethodDescriptor yX7_addWay.desc).map (fun d => d.parameters.length) = some 1 := by decide +kernel
theorem hkX7_addWay_X7 : ∀ w ∈ u_ws RX7 TX7 4, w ∈ wsX7_addWay := fun w h => List.mem_cons_of_mem _ (inlX7 w h)
theorem hfX7_addWay_18 : (Cond.fieldLink RX7 18 "NestReaders$RunCount" "factor" "[J") ∈ wsX7_addWay := List.mem_cons_of_mem _ m5_1
set_option maxHeartbeats 4000000 in
set_option maxRecDepth 100000 in
theorem c_X7_addWay (l : Launch) (G : va_G) (cI cJ cZ : ClassId) (q_t q_t_come q_t_since q_t_factor q_t_half : Nat) (sz : Nat) (A_factor : Nat → Int64) (p0 : Int32) {K : (Nat → Int64) → Prop} (hw : wX7_addWay p0 A_factor K) : Met l yX7_addWay wsX7_addWay rmX7_addWay (ms_Pz G (ms_T cI cJ cZ) [(q_t, .inr (7, [.ref q_t_come, .ref q_t_since, .ref q_t_factor, .ref q_t_half])), (q_t_factor, .inl (cJ, 9, .inr (.inl A_factor)))] sz [.ref q_t, .int p0]) (ms_Wv G (ms_T cI cJ cZ) (fun (u : (Nat → Int64)) => K u) (fun u : (Nat → Int64) => [(q_t, .inr (7, [.ref q_t_come, .ref q_t_since, .ref q_t_factor, .ref q_t_half])), (q_t_factor, .inl (cJ, 9, .inr (.inl u)))]) (va_A [(q_t, .inr (7, [.ref q_t_come, .ref q_t_since, .ref q_t_factor, .ref q_t_half])), (q_t_factor, .inl (cJ, 9, .inr (.inl A_factor)))] sz)) 0 0 (va_A [(q_t, .inr (7, [.ref q_t_come, .ref q_t_since, .ref q_t_factor, .ref q_t_half])), (q_t_factor, .inl (cJ, 9, .inr (.inl A_factor)))] sz) := by
  refine ms_tv (cc := cX7_addWay) (maxL := 3) (by decide) rfl (Nat.le_of_ble_eq_true rfl) ?_
  intro p e s m args below meth c Q A hx hb hml hown hts hK hP hD hS hA hRet ls hl
  have hl : lv_has ls 3 [(0, .ref q_t), (1, .int p0)] := hl
  have hown : s.vm.findClass RX7 = some m.cls := hown
  refine lv_iconst (v := 0) hx hb dX7_addWay_0 (by decide) ?_
  refine lv_istore_n (lv' := [(2, .int (0 : Int32)), (0, .ref q_t), (1, .int p0)]) hx hb dX7_addWay_1 rfl hl (by decide) rfl (fun ls hl => ?_)
  refine hw (fun i2_2 A_factor_2 => ∀ (H : Heap) (locs : List Loc), va_P G vwCl [(q_t, .inr (7, [.ref q_t_come, .ref q_t_since, .ref q_t_factor, .ref q_t_half])), (q_t_factor, .inl (cJ, 9, .inr (.inl A_factor_2)))] H → va_D A [(q_t, .inr (7, [.ref q_t_come, .ref q_t_since, .ref q_t_factor, .ref q_t_half])), (q_t_factor, .inl (cJ, 9, .inr (.inl A_factor_2)))] → va_S A s.heap H locs → ∀ ls : Array Slot, lv_has ls 3 [(0, .ref q_t), (1, .int p0), (2, .int i2_2)] → W p l e rmX7_addWay s m args below meth c H locs 0 0 Q (F0 m 2 ls [])) (fun i2_2 A_factor_2 hw H locs hP hD hS ls hl => ?_) s.heap [] hP hD hS ls (lv_sub hl [1, 2, 0] rfl)
  refine lv_iload_n hx hb dX7_addWay_2 rfl (lv_at hl 2 rfl) ?_
  refine lv_bipush (v := (9)) hx hb dX7_addWay_3 (by decide) ?_
  refine lv_icmp_ge (tgt := 29) hx hb dX7_addWay_5 (by decide) (fun c1 => ?_) (fun c1 => ?_)
  · have hw := hw.1 c1
    exact hRet A_factor_2 H locs _ _ hw hP hD hS dX7_addWay_29
  · have hw := hw.2 c1
    refine lv_aload_n hx hb dX7_addWay_8 rfl (lv_at hl 0 rfl) ?_
    refine va_get (D := G) (ci := 7) (v := .ref q_t_factor) (C := RX7) (T := TX7) (N := 4) hx hb hts hkX7_addWay_X7 hown hK hP 0 rfl rfl 2 (by decide) (hts (.fieldLink RX7 18 "NestReaders$RunCount" "factor" "[J") hfX7_addWay_18) (fun _ h9 => h9) rfl dX7_addWay_9 ?_
    refine lv_iload_n hx hb dX7_addWay_12 rfl (lv_at hl 2 rfl) ?_
    refine lv_dup2_11 hx hb dX7_addWay_13 rfl rfl ?_
    refine va_lald (D := G) hx hb hK hP 1 1 rfl rfl hw.1 dX7_addWay_14 ?_
    have hw := hw.2
    refine lv_iload_n hx hb dX7_addWay_15 rfl (lv_at hl 1 rfl) ?_
    refine lv_iload_n hx hb dX7_addWay_16 rfl (lv_at hl 2 rfl) ?_
    refine lv_ishr hx hb dX7_addWay_17 ?_
    refine lv_iconst (v := 1) hx hb dX7_addWay_18 (by decide) ?_
    refine lv_iand hx hb dX7_addWay_19 ?_
    refine lv_i2l hx hb dX7_addWay_20 rfl ?_
    refine lv_ladd hx hb dX7_addWay_21 ?_
    refine lv_topl (fun x2 ex2 => ?_)
    have hw := hw x2 ex2
    refine ms_last hx hb hK hP hD hS 1 1 rfl rfl hw.1 dX7_addWay_22 (fun g3 H locs eg3 hP hD hS => ?_)
    have hw := hw.2 g3 eg3
    have hP : va_P G vwCl [(q_t, .inr (7, [.ref q_t_come, .ref q_t_since, .ref q_t_factor, .ref q_t_half])), (q_t_factor, .inl (cJ, 9, .inr (.inl g3)))] H := hP
    have hD : va_D A [(q_t, .inr (7, [.ref q_t_come, .ref q_t_since, .ref q_t_factor, .ref q_t_half])), (q_t_factor, .inl (cJ, 9, .inr (.inl g3)))] := hD
    obtain ⟨x4, ex4⟩ : ∃ y : Int32, y = i2_2 + (1 : Int32) := ⟨_, rfl⟩
    have hw := hw x4 ex4
    refine lv_iinc (v := x4) (lv' := [(2, .int x4), (0, .ref q_t), (1, .int p0)]) hx hb dX7_addWay_23 hl (k := 2) rfl (by rw [ex4]; rfl) (by decide) rfl (fun ls hl => ?_)
    refine lv_goto (tgt := 2) hx hb dX7_addWay_26 (by decide) ?_
    exact hw H locs hP hD hS ls (lv_sub hl [1, 2, 0] rfl)
def wX7_times_L26 (p1 : Int32) (A_factor : Nat → Int64) (n_p0 : Nat) (i3_5 : Int32) (A_p0_3 : Nat → Int64) (x2 : Int32) (E26 : Int64 → Int32 → Prop) (i26_7 : Int64) (i26_9 : Int32) : Prop :=
  ∀ P26 : Int64 → Int32 → Prop, (∀ (i26_7 : Int64) (i26_9 : Int32), (((3 : Int32) ≤ i26_9 → E26 i26_7 i26_9) ∧ (¬ (3 : Int32) ≤ i26_9 → (vp_in ((p1 + x2) + i26_9) n_p0 ∧ (∀ x7 : Int64, x7 = ((A_p0_3 ((p1 + x2) + i26_9).toNatClampNeg) - (A_p0_3 ((p1 + x2) + i26_9).toNatClampNeg) / (1000000007 : Int64) * (1000000007 : Int64)) → (vp_in (((3 : Int32) * i26_9) + (i3_5 - i3_5 / (3 : Int32) * (3 : Int32))) 9 ∧ (∀ x8 : Int64, x8 = ((x7 * (A_factor (((3 : Int32) * i26_9) + (i3_5 - i3_5 / (3 : Int32) * (3 : Int32))).toNatClampNeg)) - (x7 * (A_factor (((3 : Int32) * i26_9) + (i3_5 - i3_5 / (3 : Int32) * (3 : Int32))).toNatClampNeg)) / (1000000007 : Int64) * (1000000007 : Int64)) → (∀ x9 : Int64, x9 = (i26_7 + x8) → (∀ x10 : Int32, x10 = i26_9 + (1 : Int32) → P26 x9 x10)))))))) → P26 i26_7 i26_9) → P26 i26_7 i26_9
def wX7_times_L3 (p1 : Int32) (p2 : Int32) (p3 : Int32) (A_factor : Nat → Int64) (n_p0 : Nat) (E3 : Int32 → (Nat → Int64) → Prop) (i3_5 : Int32) (A_p0_3 : Nat → Int64) : Prop :=
  ∀ P3 : Int32 → (Nat → Int64) → Prop, (∀ (i3_5 : Int32) (A_p0_3 : Nat → Int64), ((((3 : Int32) * p3) ≤ i3_5 → E3 i3_5 A_p0_3) ∧ (¬ ((3 : Int32) * p3) ≤ i3_5 → (∀ x2 : Int32, x2 = ((i3_5 / (3 : Int32)) * (3 : Int32)) → (wX7_times_L26 p1 A_factor n_p0 i3_5 A_p0_3 x2 (fun i26_7 i26_9 => (∀ x4 : Int64, x4 = (i26_7 - i26_7 / (1000000007 : Int64) * (1000000007 : Int64)) → (vp_in (p2 + i3_5) n_p0 ∧ (∀ g5 : Nat → Int64, g5 = vp_updL A_p0_3 (p2 + i3_5).toNatClampNeg x4 → (∀ x6 : Int32, x6 = i3_5 + (1 : Int32) → P3 x6 g5))))) (0 : Int64) (0 : Int32))))) → P3 i3_5 A_p0_3) → P3 i3_5 A_p0_3
def wX7_times (p1 : Int32) (p2 : Int32) (p3 : Int32) (A_factor : Nat → Int64) (A_p0 : Nat → Int64) (n_p0 : Nat) (K : (Nat → Int64) → Prop) : Prop :=
  (wX7_times_L3 p1 p2 p3 A_factor n_p0 (fun i3_5 A_p0_3 => K A_p0_3) (0 : Int32) A_p0)
abbrev rmX7_times : Room := { frames := 0, cells := 0, slots := 0, locals := 0 }
theorem nd_X7_times : yX7_times.cls = RX7 ∧ yX7_times.cls ≠ "java/lang/invoke/MethodHandle" ∧ yX7_times.cls ≠ "java/lang/invoke/VarHandle" ∧ (parseMethodDescriptor yX7_times.desc).map (fun d => d.parameters.length) = some 4 := by decide +kernel
theorem hfX7_times_32 : (Cond.constantLong RX7 32 (1000000007)) ∈ wsX7_times := List.mem_cons_of_mem _ m26_16
theorem hkX7_times_X7 : ∀ w ∈ u_ws RX7 TX7 4, w ∈ wsX7_times := fun w h => List.mem_cons_of_mem _ (inlX7 w h)
theorem hfX7_times_18 : (Cond.fieldLink RX7 18 "NestReaders$RunCount" "factor" "[J") ∈ wsX7_times := List.mem_cons_of_mem _ m5_1
set_option maxHeartbeats 4000000 in
set_option maxRecDepth 100000 in
theorem c_X7_times (l : Launch) (G : va_G) (cI cJ cZ : ClassId) (q_t q_t_come q_t_since q_t_factor q_t_half q_p0 : Nat) (sz : Nat) (A_factor : Nat → Int64) (A_p0 : Nat → Int64) (p1 : Int32) (p2 : Int32) (p3 : Int32) (n_p0 : Nat) {K : (Nat → Int64) → Prop} (hw : wX7_times p1 p2 p3 A_factor A_p0 n_p0 K) : Met l yX7_times wsX7_times rmX7_times (ms_Pz G (ms_T cI cJ cZ) [(q_t, .inr (7, [.ref q_t_come, .ref q_t_since, .ref q_t_factor, .ref q_t_half])), (q_t_factor, .inl (cJ, 9, .inr (.inl A_factor))), (q_p0, .inl (cJ, n_p0, .inr (.inl A_p0)))] sz [.ref q_t, .ref q_p0, .int p1, .int p2, .int p3]) (ms_Wv G (ms_T cI cJ cZ) (fun (u : (Nat → Int64)) => K u) (fun u : (Nat → Int64) => [(q_t, .inr (7, [.ref q_t_come, .ref q_t_since, .ref q_t_factor, .ref q_t_half])), (q_t_factor, .inl (cJ, 9, .inr (.inl A_factor))), (q_p0, .inl (cJ, n_p0, .inr (.inl u)))]) (va_A [(q_t, .inr (7, [.ref q_t_come, .ref q_t_since, .ref q_t_factor, .ref q_t_half])), (q_t_factor, .inl (cJ, 9, .inr (.inl A_factor))), (q_p0, .inl (cJ, n_p0, .inr (.inl A_p0)))] sz)) 0 0 (va_A [(q_t, .inr (7, [.ref q_t_come, .ref q_t_since, .ref q_t_factor, .ref q_t_half])), (q_t_factor, .inl (cJ, 9, .inr (.inl A_factor))), (q_p0, .inl (cJ, n_p0, .inr (.inl A_p0)))] sz) := by
  refine ms_tv (cc := cX7_times) (maxL := 10) (by decide) rfl (Nat.le_of_ble_eq_true rfl) ?_
  intro p e s m args below meth c Q A hx hb hml hown hts hK hP hD hS hA hRet ls hl
  have hl : lv_has ls 10 [(0, .ref q_t), (1, .ref q_p0), (2, .int p1), (3, .int p2), (4, .int p3)] := hl
  have hown : s.vm.findClass RX7 = some m.cls := hown
  refine lv_iconst (v := 0) hx hb dX7_times_0 (by decide) ?_
  refine lv_istore (lv' := [(5, .int (0 : Int32)), (0, .ref q_t), (1, .ref q_p0), (2, .int p1), (3, .int p2), (4, .int p3)]) hx hb dX7_times_1 hl (by decide) rfl (fun ls hl => ?_)
  refine hw (fun i3_5 A_p0_3 => ∀ (H : Heap) (locs : List Loc), va_P G vwCl [(q_t, .inr (7, [.ref q_t_come, .ref q_t_since, .ref q_t_factor, .ref q_t_half])), (q_t_factor, .inl (cJ, 9, .inr (.inl A_factor))), (q_p0, .inl (cJ, n_p0, .inr (.inl A_p0_3)))] H → va_D A [(q_t, .inr (7, [.ref q_t_come, .ref q_t_since, .ref q_t_factor, .ref q_t_half])), (q_t_factor, .inl (cJ, 9, .inr (.inl A_factor))), (q_p0, .inl (cJ, n_p0, .inr (.inl A_p0_3)))] → va_S A s.heap H locs → ∀ ls : Array Slot, lv_has ls 10 [(0, .ref q_t), (1, .ref q_p0), (2, .int p1), (3, .int p2), (4, .int p3), (5, .int i3_5)] → W p l e rmX7_times s m args below meth c H locs 0 0 Q (F0 m 3 ls [])) (fun i3_5 A_p0_3 hw H locs hP hD hS ls hl => ?_) s.heap [] hP hD hS ls (lv_sub hl [1, 2, 3, 4, 5, 0] rfl)
  refine lv_iload hx hb dX7_times_3 (lv_at hl 5 rfl) ?_
  refine lv_iconst (v := 3) hx hb dX7_times_5 (by decide) ?_
  refine lv_iload hx hb dX7_times_6 (lv_at hl 4 rfl) ?_
  refine lv_imul hx hb dX7_times_8 ?_
  refine lv_icmp_ge (tgt := 93) hx hb dX7_times_9 (by decide) (fun c1 => ?_) (fun c1 => ?_)
  · have hw := hw.1 c1
    exact hRet A_p0_3 H locs _ _ hw hP hD hS dX7_times_93
  · have hw := hw.2 c1
    refine lv_iload hx hb dX7_times_12 (lv_at hl 5 rfl) ?_
    refine lv_iconst (v := 3) hx hb dX7_times_14 (by decide) ?_
    refine lv_idiv hx hb dX7_times_15 (by decide) ?_
    refine lv_iconst (v := 3) hx hb dX7_times_16 (by decide) ?_
    refine lv_imul hx hb dX7_times_17 ?_
    refine lv_topi (fun x2 ex2 => ?_)
    have hw := hw x2 ex2
    refine lv_istore (lv' := [(6, .int x2), (0, .ref q_t), (1, .ref q_p0), (2, .int p1), (3, .int p2), (4, .int p3), (5, .int i3_5)]) hx hb dX7_times_18 hl (by decide) rfl (fun ls hl => ?_)
    refine lv_lconst (v := 0) hx hb dX7_times_20 (by decide) ?_
    refine lv_lstore (lv' := [(7, .long (0 : Int64)), (6, .int x2), (0, .ref q_t), (1, .ref q_p0), (2, .int p1), (3, .int p2), (4, .int p3), (5, .int i3_5)]) hx hb dX7_times_21 hl (by decide) rfl (fun ls hl => ?_)
    refine lv_iconst (v := 0) hx hb dX7_times_23 (by decide) ?_
    refine lv_istore (lv' := [(9, .int (0 : Int32)), (7, .long (0 : Int64)), (6, .int x2), (0, .ref q_t), (1, .ref q_p0), (2, .int p1), (3, .int p2), (4, .int p3), (5, .int i3_5)]) hx hb dX7_times_24 hl (by decide) rfl (fun ls hl => ?_)
    refine hw (fun i26_7 i26_9 => ∀ (H : Heap) (locs : List Loc), va_P G vwCl [(q_t, .inr (7, [.ref q_t_come, .ref q_t_since, .ref q_t_factor, .ref q_t_half])), (q_t_factor, .inl (cJ, 9, .inr (.inl A_factor))), (q_p0, .inl (cJ, n_p0, .inr (.inl A_p0_3)))] H → va_D A [(q_t, .inr (7, [.ref q_t_come, .ref q_t_since, .ref q_t_factor, .ref q_t_half])), (q_t_factor, .inl (cJ, 9, .inr (.inl A_factor))), (q_p0, .inl (cJ, n_p0, .inr (.inl A_p0_3)))] → va_S A s.heap H locs → ∀ ls : Array Slot, lv_has ls 10 [(0, .ref q_t), (1, .ref q_p0), (2, .int p1), (3, .int p2), (4, .int p3), (5, .int i3_5), (6, .int x2), (7, .long i26_7), (9, .int i26_9)] → W p l e rmX7_times s m args below meth c H locs 0 0 Q (F0 m 26 ls [])) (fun i26_7 i26_9 hw H locs hP hD hS ls hl => ?_) H locs hP hD hS ls (lv_sub hl [3, 4, 5, 6, 7, 8, 2, 1, 0] rfl)
    refine lv_iload hx hb dX7_times_26 (lv_at hl 8 rfl) ?_
    refine lv_iconst (v := 3) hx hb dX7_times_28 (by decide) ?_
    refine lv_icmp_ge (tgt := 75) hx hb dX7_times_29 (by decide) (fun c3 => ?_) (fun c3 => ?_)
    · have hw := hw.1 c3
      refine lv_aload_n hx hb dX7_times_75 rfl (lv_at hl 1 rfl) ?_
      refine lv_iload_n hx hb dX7_times_76 rfl (lv_at hl 3 rfl) ?_
      refine lv_iload hx hb dX7_times_77 (lv_at hl 5 rfl) ?_
      refine lv_iadd hx hb dX7_times_79 ?_
      refine lv_lload hx hb dX7_times_80 (lv_at hl 7 rfl) ?_
      refine lv_ldc2 hx hb (v := (1000000007)) hown (hts (.constantLong RX7 32 (1000000007)) hfX7_times_32) dX7_times_82 ?_
      refine lv_lrem hx hb dX7_times_85 (by decide) ?_
      refine lv_topl (fun x4 ex4 => ?_)
      have hw := hw x4 ex4
      refine ms_last hx hb hK hP hD hS 2 1 rfl rfl hw.1 dX7_times_86 (fun g5 H locs eg5 hP hD hS => ?_)
      have hw := hw.2 g5 eg5
      have hP : va_P G vwCl [(q_t, .inr (7, [.ref q_t_come, .ref q_t_since, .ref q_t_factor, .ref q_t_half])), (q_t_factor, .inl (cJ, 9, .inr (.inl A_factor))), (q_p0, .inl (cJ, n_p0, .inr (.inl g5)))] H := hP
      have hD : va_D A [(q_t, .inr (7, [.ref q_t_come, .ref q_t_since, .ref q_t_factor, .ref q_t_half])), (q_t_factor, .inl (cJ, 9, .inr (.inl A_factor))), (q_p0, .inl (cJ, n_p0, .inr (.inl g5)))] := hD
      obtain ⟨x6, ex6⟩ : ∃ y : Int32, y = i3_5 + (1 : Int32) := ⟨_, rfl⟩
      have hw := hw x6 ex6
      refine lv_iinc (v := x6) (lv' := [(5, .int x6), (0, .ref q_t), (1, .ref q_p0), (2, .int p1), (3, .int p2), (4, .int p3), (6, .int x2), (7, .long i26_7), (9, .int i26_9)]) hx hb dX7_times_87 hl (k := 5) rfl (by rw [ex6]; rfl) (by decide) rfl (fun ls hl => ?_)
      refine lv_goto (tgt := 3) hx hb dX7_times_90 (by decide) ?_
      exact hw H locs hP hD hS ls (lv_sub hl [1, 2, 3, 4, 5, 0] rfl)
    · have hw := hw.2 c3
      refine lv_lload hx hb dX7_times_32 (lv_at hl 7 rfl) ?_
      refine lv_aload_n hx hb dX7_times_34 rfl (lv_at hl 1 rfl) ?_
      refine lv_iload_n hx hb dX7_times_35 rfl (lv_at hl 2 rfl) ?_
      refine lv_iload hx hb dX7_times_36 (lv_at hl 6 rfl) ?_
      refine lv_iadd hx hb dX7_times_38 ?_
      refine lv_iload hx hb dX7_times_39 (lv_at hl 8 rfl) ?_
      refine lv_iadd hx hb dX7_times_41 ?_
      refine va_lald (D := G) hx hb hK hP 2 1 rfl rfl hw.1 dX7_times_42 ?_
      have hw := hw.2
      refine lv_ldc2 hx hb (v := (1000000007)) hown (hts (.constantLong RX7 32 (1000000007)) hfX7_times_32) dX7_times_43 ?_
      refine lv_lrem hx hb dX7_times_46 (by decide) ?_
      refine lv_topl (fun x7 ex7 => ?_)
      have hw := hw x7 ex7
      refine lv_aload_n hx hb dX7_times_47 rfl (lv_at hl 0 rfl) ?_
      refine va_get (D := G) (ci := 7) (v := .ref q_t_factor) (C := RX7) (T := TX7) (N := 4) hx hb hts hkX7_times_X7 hown hK hP 0 rfl rfl 2 (by decide) (hts (.fieldLink RX7 18 "NestReaders$RunCount" "factor" "[J") hfX7_times_18) (fun _ h9 => h9) rfl dX7_times_48 ?_
      refine lv_iconst (v := 3) hx hb dX7_times_51 (by decide) ?_
      refine lv_iload hx hb dX7_times_52 (lv_at hl 8 rfl) ?_
      refine lv_imul hx hb dX7_times_54 ?_
      refine lv_iload hx hb dX7_times_55 (lv_at hl 5 rfl) ?_
      refine lv_iconst (v := 3) hx hb dX7_times_57 (by decide) ?_
      refine lv_irem hx hb dX7_times_58 (by decide) ?_
      refine lv_iadd hx hb dX7_times_59 ?_
      refine va_lald (D := G) hx hb hK hP 1 1 rfl rfl hw.1 dX7_times_60 ?_
      have hw := hw.2
      refine lv_lmul hx hb dX7_times_61 ?_
      refine lv_ldc2 hx hb (v := (1000000007)) hown (hts (.constantLong RX7 32 (1000000007)) hfX7_times_32) dX7_times_62 ?_
      refine lv_lrem hx hb dX7_times_65 (by decide) ?_
      refine lv_topl (fun x8 ex8 => ?_)
      have hw := hw x8 ex8
      refine lv_ladd hx hb dX7_times_66 ?_
      refine lv_topl (fun x9 ex9 => ?_)
      have hw := hw x9 ex9
      refine lv_lstore (lv' := [(7, .long x9), (0, .ref q_t), (1, .ref q_p0), (2, .int p1), (3, .int p2), (4, .int p3), (5, .int i3_5), (6, .int x2), (9, .int i26_9)]) hx hb dX7_times_67 hl (by decide) rfl (fun ls hl => ?_)
      obtain ⟨x10, ex10⟩ : ∃ y : Int32, y = i26_9 + (1 : Int32) := ⟨_, rfl⟩
      have hw := hw x10 ex10
      refine lv_iinc (v := x10) (lv' := [(9, .int x10), (7, .long x9), (0, .ref q_t), (1, .ref q_p0), (2, .int p1), (3, .int p2), (4, .int p3), (5, .int i3_5), (6, .int x2)]) hx hb dX7_times_69 hl (k := 8) rfl (by rw [ex10]; rfl) (by decide) rfl (fun ls hl => ?_)
      refine lv_goto (tgt := 26) hx hb dX7_times_72 (by decide) ?_
      exact hw H locs hP hD hS ls (lv_sub hl [2, 3, 4, 5, 6, 7, 8, 1, 0] rfl)
def wX7_clear_L2 (n_p0 : Nat) (E2 : Int32 → (Nat → Int64) → Prop) (i2_1 : Int32) (A_p0_2 : Nat → Int64) : Prop :=
  ∀ P2 : Int32 → (Nat → Int64) → Prop, (∀ (i2_1 : Int32) (A_p0_2 : Nat → Int64), (((nI n_p0) ≤ i2_1 → E2 i2_1 A_p0_2) ∧ (¬ (nI n_p0) ≤ i2_1 → (vp_in i2_1 n_p0 ∧ (∀ g2 : Nat → Int64, g2 = vp_updL A_p0_2 i2_1.toNatClampNeg (0 : Int64) → (∀ x3 : Int32, x3 = i2_1 + (1 : Int32) → P2 x3 g2))))) → P2 i2_1 A_p0_2) → P2 i2_1 A_p0_2
def wX7_clear (A_p0 : Nat → Int64) (n_p0 : Nat) (K : (Nat → Int64) → Prop) : Prop :=
  (wX7_clear_L2 n_p0 (fun i2_1 A_p0_2 => K A_p0_2) (0 : Int32) A_p0)
abbrev rmX7_clear : Room := { frames := 0, cells := 0, slots := 0, locals := 0 }
theorem nd_X7_clear : yX7_clear.cls ≠ "java/lang/invoke/MethodHandle" ∧ yX7_clear.cls ≠ "java/lang/invoke/VarHandle" ∧ (parseMethodDescriptor yX7_clear.desc).map (fun d => d.parameters.length) = some 1 := by decide +kernel
set_option maxHeartbeats 4000000 in
set_option maxRecDepth 100000 in
theorem c_X7_clear (l : Launch) (G : va_G) (cI cJ cZ : ClassId) (q_p0 : Nat) (sz : Nat) (A_p0 : Nat → Int64) (n_p0 : Nat) {K : (Nat → Int64) → Prop} (hw : wX7_clear A_p0 n_p0 K) : Met l yX7_clear wsX7_clear rmX7_clear (ms_Pz G (ms_T cI cJ cZ) [(q_p0, .inl (cJ, n_p0, .inr (.inl A_p0)))] sz [.ref q_p0]) (ms_Wv G (ms_T cI cJ cZ) (fun (u : (Nat → Int64)) => K u) (fun u : (Nat → Int64) => [(q_p0, .inl (cJ, n_p0, .inr (.inl u)))]) (va_A [(q_p0, .inl (cJ, n_p0, .inr (.inl A_p0)))] sz)) 0 0 (va_A [(q_p0, .inl (cJ, n_p0, .inr (.inl A_p0)))] sz) := by
  refine ms_tv (cc := cX7_clear) (maxL := 2) (by decide) rfl (Nat.le_of_ble_eq_true rfl) ?_
  intro p e s m args below meth c Q A hx hb hml hown hts hK hP hD hS hA hRet ls hl
  have hl : lv_has ls 2 [(0, .ref q_p0)] := hl
  have hown : s.vm.findClass RX7 = some m.cls := hown
  refine lv_iconst (v := 0) hx hb dX7_clear_0 (by decide) ?_
  refine lv_istore_n (lv' := [(1, .int (0 : Int32)), (0, .ref q_p0)]) hx hb dX7_clear_1 rfl hl (by decide) rfl (fun ls hl => ?_)
  refine hw (fun i2_1 A_p0_2 => ∀ (H : Heap) (locs : List Loc), va_P G vwCl [(q_p0, .inl (cJ, n_p0, .inr (.inl A_p0_2)))] H → va_D A [(q_p0, .inl (cJ, n_p0, .inr (.inl A_p0_2)))] → va_S A s.heap H locs → ∀ ls : Array Slot, lv_has ls 2 [(0, .ref q_p0), (1, .int i2_1)] → W p l e rmX7_clear s m args below meth c H locs 0 0 Q (F0 m 2 ls [])) (fun i2_1 A_p0_2 hw H locs hP hD hS ls hl => ?_) s.heap [] hP hD hS ls (lv_sub hl [1, 0] rfl)
  refine lv_iload_n hx hb dX7_clear_2 rfl (lv_at hl 1 rfl) ?_
  refine lv_aload_n hx hb dX7_clear_3 rfl (lv_at hl 0 rfl) ?_
  refine va_alen (D := G) (v := (nI n_p0)) hx hb hK hP 0 1 rfl rfl rfl dX7_clear_4 ?_
  refine lv_icmp_ge (tgt := 18) hx hb dX7_clear_5 (by decide) (fun c1 => ?_) (fun c1 => ?_)
  · have hw := hw.1 c1
    exact hRet A_p0_2 H locs _ _ hw hP hD hS dX7_clear_18
  · have hw := hw.2 c1
    refine lv_aload_n hx hb dX7_clear_8 rfl (lv_at hl 0 rfl) ?_
    refine lv_iload_n hx hb dX7_clear_9 rfl (lv_at hl 1 rfl) ?_
    refine lv_lconst (v := 0) hx hb dX7_clear_10 (by decide) ?_
    refine ms_last hx hb hK hP hD hS 0 1 rfl rfl hw.1 dX7_clear_11 (fun g2 H locs eg2 hP hD hS => ?_)
    have hw := hw.2 g2 eg2
    have hP : va_P G vwCl [(q_p0, .inl (cJ, n_p0, .inr (.inl g2)))] H := hP
    have hD : va_D A [(q_p0, .inl (cJ, n_p0, .inr (.inl g2)))] := hD
    obtain ⟨x3, ex3⟩ : ∃ y : Int32, y = i2_1 + (1 : Int32) := ⟨_, rfl⟩
    have hw := hw x3 ex3
    refine lv_iinc (v := x3) (lv' := [(1, .int x3), (0, .ref q_p0)]) hx hb dX7_clear_12 hl (k := 1) rfl (by rw [ex3]; rfl) (by decide) rfl (fun ls hl => ?_)
    refine lv_goto (tgt := 2) hx hb dX7_clear_15 (by decide) ?_
    exact hw H locs hP hD hS ls (lv_sub hl [1, 0] rfl)
def wX7_addWrapped_L81 (p2 : Int32) (A_half_19 : Nat → Int64) (E81 : Int32 → (Nat → Int64) → Prop) (i81_4 : Int32) (A_factor_81 : Nat → Int64) : Prop :=
  ∀ P81 : Int32 → (Nat → Int64) → Prop, (∀ (i81_4 : Int32) (A_factor_81 : Nat → Int64), (((27 : Int32) ≤ i81_4 → E81 i81_4 A_factor_81) ∧ (¬ (27 : Int32) ≤ i81_4 → ((((p2 >>> ((i81_4 - i81_4 / (9 : Int32) * (9 : Int32)) &&& 31)) &&& (1 : Int32)) = (0 : Int32) → (∀ x7 : Int32, x7 = i81_4 + (1 : Int32) → P81 x7 A_factor_81)) ∧ (¬ ((p2 >>> ((i81_4 - i81_4 / (9 : Int32) * (9 : Int32)) &&& 31)) &&& (1 : Int32)) = (0 : Int32) → (∀ x8 : Int32, x8 = (((i81_4 / (9 : Int32)) * (3 : Int32)) + (i81_4 - i81_4 / (3 : Int32) * (3 : Int32))) → (vp_in x8 9 ∧ (vp_in (i81_4 / (3 : Int32)) 9 ∧ (∀ x9 : Int64, x9 = (((A_factor_81 x8.toNatClampNeg) + (A_half_19 (i81_4 / (3 : Int32)).toNatClampNeg)) - ((A_factor_81 x8.toNatClampNeg) + (A_half_19 (i81_4 / (3 : Int32)).toNatClampNeg)) / (1000000007 : Int64) * (1000000007 : Int64)) → (vp_in x8 9 ∧ (∀ g10 : Nat → Int64, g10 = vp_updL A_factor_81 x8.toNatClampNeg x9 → (∀ x11 : Int32, x11 = i81_4 + (1 : Int32) → P81 x11 g10))))))))))) → P81 i81_4 A_factor_81) → P81 i81_4 A_factor_81
def wX7_addWrapped_L19 (p0 : Int32) (p1 : Int32) (A_since : Nat → Int64) (E19 : Int32 → (Nat → Int64) → Prop) (i19_4 : Int32) (A_half_19 : Nat → Int64) : Prop :=
  ∀ P19 : Int32 → (Nat → Int64) → Prop, (∀ (i19_4 : Int32) (A_half_19 : Nat → Int64), (((27 : Int32) ≤ i19_4 → E19 i19_4 A_half_19) ∧ (¬ (27 : Int32) ≤ i19_4 → ((((p0 >>> ((i19_4 / (3 : Int32)) &&& 31)) &&& (1 : Int32)) = (0 : Int32) → (∀ x13 : Int32, x13 = i19_4 + (1 : Int32) → P19 x13 A_half_19)) ∧ (¬ ((p0 >>> ((i19_4 / (3 : Int32)) &&& 31)) &&& (1 : Int32)) = (0 : Int32) → (vp_in (((i19_4 / (9 : Int32)) * (3 : Int32)) + (i19_4 - i19_4 / (3 : Int32) * (3 : Int32))) 9 ∧ (vp_in (((9 : Int32) * p1) + (i19_4 - i19_4 / (9 : Int32) * (9 : Int32))) 225 ∧ (∀ x14 : Int64, x14 = ((A_half_19 (((i19_4 / (9 : Int32)) * (3 : Int32)) + (i19_4 - i19_4 / (3 : Int32) * (3 : Int32))).toNatClampNeg) + (A_since (((9 : Int32) * p1) + (i19_4 - i19_4 / (9 : Int32) * (9 : Int32))).toNatClampNeg)) → (vp_in (((i19_4 / (9 : Int32)) * (3 : Int32)) + (i19_4 - i19_4 / (3 : Int32) * (3 : Int32))) 9 ∧ (∀ g15 : Nat → Int64, g15 = vp_updL A_half_19 (((i19_4 / (9 : Int32)) * (3 : Int32)) + (i19_4 - i19_4 / (3 : Int32) * (3 : Int32))).toNatClampNeg x14 → (∀ x16 : Int32, x16 = i19_4 + (1 : Int32) → P19 x16 g15)))))))))) → P19 i19_4 A_half_19) → P19 i19_4 A_half_19
def wX7_addWrapped (p0 : Int32) (p1 : Int32) (p2 : Int32) (A_since : Nat → Int64) (A_factor : Nat → Int64) (A_half : Nat → Int64) (K : (Nat → Int64) → (Nat → Int64) → Prop) : Prop :=
  ((p0 = (0 : Int32) → K A_factor A_half) ∧ (¬ p0 = (0 : Int32) → ((p2 = (0 : Int32) → K A_factor A_half) ∧ (¬ p2 = (0 : Int32) → (wX7_clear A_half 9 (fun u3 => (wX7_addWrapped_L19 p0 p1 A_since (fun i19_4 A_half_19 => (wX7_addWrapped_L81 p2 A_half_19 (fun i81_4 A_factor_81 => K A_factor_81 A_half_19) (0 : Int32) A_factor)) (0 : Int32) u3)))))))
abbrev rmX7_addWrapped : Room := { frames := 1, cells := 0, slots := 0, locals := 21 }
theorem nd_X7_addWrapped : yX7_addWrapped.cls = RX7 ∧ yX7_addWrapped.cls ≠ "java/lang/invoke/MethodHandle" ∧ yX7_addWrapped.cls ≠ "java/lang/invoke/VarHandle" ∧ (parseMethodDescriptor yX7_addWrapped.desc).map (fun d => d.parameters.length) = some 3 := by decide +kernel
theorem hkX7_addWrapped_X7 : ∀ w ∈ u_ws RX7 TX7 4, w ∈ wsX7_addWrapped := fun w h => List.mem_cons_of_mem _ (inlX7 w h)
theorem hfX7_addWrapped_21 : (Cond.fieldLink RX7 21 "NestReaders$RunCount" "half" "[J") ∈ wsX7_addWrapped := List.mem_cons_of_mem _ m5_2
theorem hfX7_addWrapped_18 : (Cond.fieldLink RX7 18 "NestReaders$RunCount" "factor" "[J") ∈ wsX7_addWrapped := List.mem_cons_of_mem _ m5_1
theorem hfX7_addWrapped_32 : (Cond.constantLong RX7 32 (1000000007)) ∈ wsX7_addWrapped := List.mem_cons_of_mem _ m26_16
theorem hfX7_addWrapped_15 : (Cond.fieldLink RX7 15 "NestReaders$RunCount" "since" "[J") ∈ wsX7_addWrapped := List.mem_cons_of_mem _ m5_0
set_option maxHeartbeats 4000000 in
set_option maxRecDepth 100000 in
theorem c_X7_addWrapped (l : Launch) (G : va_G) (cI cJ cZ : ClassId) (q_t q_t_come q_t_since q_t_factor q_t_half : Nat) (sz : Nat) (A_since : Nat → Int64) (A_factor : Nat → Int64) (A_half : Nat → Int64) (p0 : Int32) (p1 : Int32) (p2 : Int32) {K : (Nat → Int64) → (Nat → Int64) → Prop} (hw : wX7_addWrapped p0 p1 p2 A_since A_factor A_half K) : Met l yX7_addWrapped wsX7_addWrapped rmX7_addWrapped (ms_Pz G (ms_T cI cJ cZ) [(q_t, .inr (7, [.ref q_t_come, .ref q_t_since, .ref q_t_factor, .ref q_t_half])), (q_t_since, .inl (cJ, 225, .inr (.inl A_since))), (q_t_factor, .inl (cJ, 9, .inr (.inl A_factor))), (q_t_half, .inl (cJ, 9, .inr (.inl A_half)))] sz [.ref q_t, .int p0, .int p1, .int p2]) (ms_Wv G (ms_T cI cJ cZ) (fun (u : (Nat → Int64) × (Nat → Int64)) => K u.1 u.2) (fun u : (Nat → Int64) × (Nat → Int64) => [(q_t, .inr (7, [.ref q_t_come, .ref q_t_since, .ref q_t_factor, .ref q_t_half])), (q_t_since, .inl (cJ, 225, .inr (.inl A_since))), (q_t_factor, .inl (cJ, 9, .inr (.inl u.1))), (q_t_half, .inl (cJ, 9, .inr (.inl u.2)))]) (va_A [(q_t, .inr (7, [.ref q_t_come, .ref q_t_since, .ref q_t_factor, .ref q_t_half])), (q_t_since, .inl (cJ, 225, .inr (.inl A_since))), (q_t_factor, .inl (cJ, 9, .inr (.inl A_factor))), (q_t_half, .inl (cJ, 9, .inr (.inl A_half)))] sz)) 0 0 (va_A [(q_t, .inr (7, [.ref q_t_come, .ref q_t_since, .ref q_t_factor, .ref q_t_half])), (q_t_since, .inl (cJ, 225, .inr (.inl A_since))), (q_t_factor, .inl (cJ, 9, .inr (.inl A_factor))), (q_t_half, .inl (cJ, 9, .inr (.inl A_half)))] sz) := by
  refine ms_tv (cc := cX7_addWrapped) (maxL := 6) (by decide) rfl (Nat.le_of_ble_eq_true rfl) ?_
  intro p e s m args below meth c Q A hx hb hml hown hts hK hP hD hS hA hRet ls hl
  have hl : lv_has ls 6 [(0, .ref q_t), (1, .int p0), (2, .int p1), (3, .int p2)] := hl
  have hown : s.vm.findClass RX7 = some m.cls := hown
  refine lv_iload_n hx hb dX7_addWrapped_0 rfl (lv_at hl 1 rfl) ?_
  refine lv_if_eq (tgt := 8) hx hb dX7_addWrapped_1 (by decide) (fun c1 => ?_) (fun c1 => ?_)
  · have hw := hw.1 c1
    exact hRet ⟨A_factor, A_half⟩ s.heap [] _ _ hw hP hD hS dX7_addWrapped_8
  · have hw := hw.2 c1
    refine lv_iload_n hx hb dX7_addWrapped_4 rfl (lv_at hl 3 rfl) ?_
    refine lv_if_ne (tgt := 9) hx hb dX7_addWrapped_5 (by decide) (fun c2 => ?_) (fun c2 => ?_)
    · have hw := hw.2 c2
      refine lv_aload_n hx hb dX7_addWrapped_9 rfl (lv_at hl 0 rfl) ?_
      refine va_get (D := G) (ci := 7) (v := .ref q_t_half) (C := RX7) (T := TX7) (N := 4) hx hb hts hkX7_addWrapped_X7 hown hK hP 0 rfl rfl 3 (by decide) (hts (.fieldLink RX7 21 "NestReaders$RunCount" "half" "[J") hfX7_addWrapped_21) (fun _ h9 => h9) rfl dX7_addWrapped_10 ?_
      refine ms_mSv (wr := [(q_t, .inr (7, [.ref q_t_come, .ref q_t_since, .ref q_t_factor, .ref q_t_half])), (q_t_since, .inl (cJ, 225, .inr (.inl A_since))), (q_t_factor, .inl (cJ, 9, .inr (.inl A_factor)))]) ⟨hx, hb, hml, hown, hts⟩ hK hP hD (c_X7_clear l G cI cJ cZ q_t_half s.heap.size A_half 9 hw) gX7_addWrapped_X7_clear rfl nd_X7_clear ⟨rfl, rfl⟩ rfl ⟨Nat.le_of_ble_eq_true rfl, Nat.le_of_ble_eq_true rfl⟩ hl.1 (rest := []) rfl (Nat.le_of_ble_eq_true rfl)  hS hA [3] [0, 1, 2] rfl rfl rfl (by decide) rfl dX7_addWrapped_13 (fun u H locs hw hP hD hS => ?_)
      obtain ⟨u3, rfl⟩ : ∃ z, z = u := ⟨_, rfl⟩
      obtain ⟨hP, hD⟩ : ms_PD G A [(q_t, .inr (7, [.ref q_t_come, .ref q_t_since, .ref q_t_factor, .ref q_t_half])), (q_t_since, .inl (cJ, 225, .inr (.inl A_since))), (q_t_factor, .inl (cJ, 9, .inr (.inl A_factor))), (q_t_half, .inl (cJ, 9, .inr (.inl u3)))] H := ms_PDsub hP hD [0, 1, 2, 3] (by decide +kernel) rfl
      refine lv_iconst (v := 0) hx hb dX7_addWrapped_16 (by decide) ?_
      refine lv_istore (lv' := [(4, .int (0 : Int32)), (0, .ref q_t), (1, .int p0), (2, .int p1), (3, .int p2)]) hx hb dX7_addWrapped_17 hl (by decide) rfl (fun ls hl => ?_)
      refine hw (fun i19_4 A_half_19 => ∀ (H : Heap) (locs : List Loc), va_P G vwCl [(q_t, .inr (7, [.ref q_t_come, .ref q_t_since, .ref q_t_factor, .ref q_t_half])), (q_t_since, .inl (cJ, 225, .inr (.inl A_since))), (q_t_factor, .inl (cJ, 9, .inr (.inl A_factor))), (q_t_half, .inl (cJ, 9, .inr (.inl A_half_19)))] H → va_D A [(q_t, .inr (7, [.ref q_t_come, .ref q_t_since, .ref q_t_factor, .ref q_t_half])), (q_t_since, .inl (cJ, 225, .inr (.inl A_since))), (q_t_factor, .inl (cJ, 9, .inr (.inl A_factor))), (q_t_half, .inl (cJ, 9, .inr (.inl A_half_19)))] → va_S A s.heap H locs → ∀ ls : Array Slot, lv_has ls 6 [(0, .ref q_t), (1, .int p0), (2, .int p1), (3, .int p2), (4, .int i19_4)] → W p l e rmX7_addWrapped s m args below meth c H locs 0 0 Q (F0 m 19 ls [])) (fun i19_4 A_half_19 hw H locs hP hD hS ls hl => ?_) H locs hP hD hS ls (lv_sub hl [1, 2, 3, 4, 0] rfl)
      refine lv_iload hx hb dX7_addWrapped_19 (lv_at hl 4 rfl) ?_
      refine lv_bipush (v := (27)) hx hb dX7_addWrapped_21 (by decide) ?_
      refine lv_icmp_ge (tgt := 78) hx hb dX7_addWrapped_23 (by decide) (fun c4 => ?_) (fun c4 => ?_)
      · have hw := hw.1 c4
        refine lv_iconst (v := 0) hx hb dX7_addWrapped_78 (by decide) ?_
        refine lv_istore (lv' := [(4, .int (0 : Int32)), (0, .ref q_t), (1, .int p0), (2, .int p1), (3, .int p2)]) hx hb dX7_addWrapped_79 hl (by decide) rfl (fun ls hl => ?_)
        refine hw (fun i81_4 A_factor_81 => ∀ (H : Heap) (locs : List Loc), va_P G vwCl [(q_t, .inr (7, [.ref q_t_come, .ref q_t_since, .ref q_t_factor, .ref q_t_half])), (q_t_since, .inl (cJ, 225, .inr (.inl A_since))), (q_t_factor, .inl (cJ, 9, .inr (.inl A_factor_81))), (q_t_half, .inl (cJ, 9, .inr (.inl A_half_19)))] H → va_D A [(q_t, .inr (7, [.ref q_t_come, .ref q_t_since, .ref q_t_factor, .ref q_t_half])), (q_t_since, .inl (cJ, 225, .inr (.inl A_since))), (q_t_factor, .inl (cJ, 9, .inr (.inl A_factor_81))), (q_t_half, .inl (cJ, 9, .inr (.inl A_half_19)))] → va_S A s.heap H locs → ∀ ls : Array Slot, lv_has ls 6 [(0, .ref q_t), (3, .int p2), (4, .int i81_4)] → W p l e rmX7_addWrapped s m args below meth c H locs 0 0 Q (F0 m 81 ls [])) (fun i81_4 A_factor_81 hw H locs hP hD hS ls hl => ?_) H locs hP hD hS ls (lv_sub hl [1, 4, 0] rfl)
        refine lv_iload hx hb dX7_addWrapped_81 (lv_at hl 2 rfl) ?_
        refine lv_bipush (v := (27)) hx hb dX7_addWrapped_83 (by decide) ?_
        refine lv_icmp_ge (tgt := 148) hx hb dX7_addWrapped_85 (by decide) (fun c5 => ?_) (fun c5 => ?_)
        · have hw := hw.1 c5
          exact hRet ⟨A_factor_81, A_half_19⟩ H locs _ _ hw hP hD hS dX7_addWrapped_148
        · have hw := hw.2 c5
          refine lv_iload_n hx hb dX7_addWrapped_88 rfl (lv_at hl 1 rfl) ?_
          refine lv_iload hx hb dX7_addWrapped_89 (lv_at hl 2 rfl) ?_
          refine lv_bipush (v := (9)) hx hb dX7_addWrapped_91 (by decide) ?_
          refine lv_irem hx hb dX7_addWrapped_93 (by decide) ?_
          refine lv_ishr hx hb dX7_addWrapped_94 ?_
          refine lv_iconst (v := 1) hx hb dX7_addWrapped_95 (by decide) ?_
          refine lv_iand hx hb dX7_addWrapped_96 ?_
          refine lv_if_eq (tgt := 142) hx hb dX7_addWrapped_97 (by decide) (fun c6 => ?_) (fun c6 => ?_)
          · have hw := hw.1 c6
            obtain ⟨x7, ex7⟩ : ∃ y : Int32, y = i81_4 + (1 : Int32) := ⟨_, rfl⟩
            have hw := hw x7 ex7
            refine lv_iinc (v := x7) (lv' := [(4, .int x7), (0, .ref q_t), (3, .int p2)]) hx hb dX7_addWrapped_142 hl (k := 2) rfl (by rw [ex7]; rfl) (by decide) rfl (fun ls hl => ?_)
            refine lv_goto (tgt := 81) hx hb dX7_addWrapped_145 (by decide) ?_
            exact hw H locs hP hD hS ls (lv_sub hl [1, 2, 0] rfl)
          · have hw := hw.2 c6
            refine lv_iload hx hb dX7_addWrapped_100 (lv_at hl 2 rfl) ?_
            refine lv_bipush (v := (9)) hx hb dX7_addWrapped_102 (by decide) ?_
            refine lv_idiv hx hb dX7_addWrapped_104 (by decide) ?_
            refine lv_iconst (v := 3) hx hb dX7_addWrapped_105 (by decide) ?_
            refine lv_imul hx hb dX7_addWrapped_106 ?_
            refine lv_iload hx hb dX7_addWrapped_107 (lv_at hl 2 rfl) ?_
            refine lv_iconst (v := 3) hx hb dX7_addWrapped_109 (by decide) ?_
            refine lv_irem hx hb dX7_addWrapped_110 (by decide) ?_
            refine lv_iadd hx hb dX7_addWrapped_111 ?_
            refine lv_topi (fun x8 ex8 => ?_)
            have hw := hw x8 ex8
            refine lv_istore (lv' := [(5, .int x8), (0, .ref q_t), (3, .int p2), (4, .int i81_4)]) hx hb dX7_addWrapped_112 hl (by decide) rfl (fun ls hl => ?_)
            refine lv_aload_n hx hb dX7_addWrapped_114 rfl (lv_at hl 1 rfl) ?_
            refine va_get (D := G) (ci := 7) (v := .ref q_t_factor) (C := RX7) (T := TX7) (N := 4) hx hb hts hkX7_addWrapped_X7 hown hK hP 0 rfl rfl 2 (by decide) (hts (.fieldLink RX7 18 "NestReaders$RunCount" "factor" "[J") hfX7_addWrapped_18) (fun _ h9 => h9) rfl dX7_addWrapped_115 ?_
            refine lv_iload hx hb dX7_addWrapped_118 (lv_at hl 0 rfl) ?_
            refine lv_aload_n hx hb dX7_addWrapped_120 rfl (lv_at hl 1 rfl) ?_
            refine va_get (D := G) (ci := 7) (v := .ref q_t_factor) (C := RX7) (T := TX7) (N := 4) hx hb hts hkX7_addWrapped_X7 hown hK hP 0 rfl rfl 2 (by decide) (hts (.fieldLink RX7 18 "NestReaders$RunCount" "factor" "[J") hfX7_addWrapped_18) (fun _ h9 => h9) rfl dX7_addWrapped_121 ?_
            refine lv_iload hx hb dX7_addWrapped_124 (lv_at hl 0 rfl) ?_
            refine va_lald (D := G) hx hb hK hP 2 1 rfl rfl hw.1 dX7_addWrapped_126 ?_
            have hw := hw.2
            refine lv_aload_n hx hb dX7_addWrapped_127 rfl (lv_at hl 1 rfl) ?_
            refine va_get (D := G) (ci := 7) (v := .ref q_t_half) (C := RX7) (T := TX7) (N := 4) hx hb hts hkX7_addWrapped_X7 hown hK hP 0 rfl rfl 3 (by decide) (hts (.fieldLink RX7 21 "NestReaders$RunCount" "half" "[J") hfX7_addWrapped_21) (fun _ h9 => h9) rfl dX7_addWrapped_128 ?_
            refine lv_iload hx hb dX7_addWrapped_131 (lv_at hl 3 rfl) ?_
            refine lv_iconst (v := 3) hx hb dX7_addWrapped_133 (by decide) ?_
            refine lv_idiv hx hb dX7_addWrapped_134 (by decide) ?_
            refine va_lald (D := G) hx hb hK hP 3 1 rfl rfl hw.1 dX7_addWrapped_135 ?_
            have hw := hw.2
            refine lv_ladd hx hb dX7_addWrapped_136 ?_
            refine lv_ldc2 hx hb (v := (1000000007)) hown (hts (.constantLong RX7 32 (1000000007)) hfX7_addWrapped_32) dX7_addWrapped_137 ?_
            refine lv_lrem hx hb dX7_addWrapped_140 (by decide) ?_
            refine lv_topl (fun x9 ex9 => ?_)
            have hw := hw x9 ex9
            refine ms_last hx hb hK hP hD hS 2 1 rfl rfl hw.1 dX7_addWrapped_141 (fun g10 H locs eg10 hP hD hS => ?_)
            have hw := hw.2 g10 eg10
            have hP : va_P G vwCl [(q_t, .inr (7, [.ref q_t_come, .ref q_t_since, .ref q_t_factor, .ref q_t_half])), (q_t_since, .inl (cJ, 225, .inr (.inl A_since))), (q_t_factor, .inl (cJ, 9, .inr (.inl g10))), (q_t_half, .inl (cJ, 9, .inr (.inl A_half_19)))] H := hP
            have hD : va_D A [(q_t, .inr (7, [.ref q_t_come, .ref q_t_since, .ref q_t_factor, .ref q_t_half])), (q_t_since, .inl (cJ, 225, .inr (.inl A_since))), (q_t_factor, .inl (cJ, 9, .inr (.inl g10))), (q_t_half, .inl (cJ, 9, .inr (.inl A_half_19)))] := hD
            obtain ⟨x11, ex11⟩ : ∃ y : Int32, y = i81_4 + (1 : Int32) := ⟨_, rfl⟩
            have hw := hw x11 ex11
            refine lv_iinc (v := x11) (lv' := [(4, .int x11), (5, .int x8), (0, .ref q_t), (3, .int p2)]) hx hb dX7_addWrapped_142 hl (k := 3) rfl (by rw [ex11]; rfl) (by decide) rfl (fun ls hl => ?_)
            refine lv_goto (tgt := 81) hx hb dX7_addWrapped_145 (by decide) ?_
            exact hw H locs hP hD hS ls (lv_sub hl [2, 3, 0] rfl)
      · have hw := hw.2 c4
        refine lv_iload_n hx hb dX7_addWrapped_26 rfl (lv_at hl 1 rfl) ?_
        refine lv_iload hx hb dX7_addWrapped_27 (lv_at hl 4 rfl) ?_
        refine lv_iconst (v := 3) hx hb dX7_addWrapped_29 (by decide) ?_
        refine lv_idiv hx hb dX7_addWrapped_30 (by decide) ?_
        refine lv_ishr hx hb dX7_addWrapped_31 ?_
        refine lv_iconst (v := 1) hx hb dX7_addWrapped_32 (by decide) ?_
        refine lv_iand hx hb dX7_addWrapped_33 ?_
        refine lv_if_eq (tgt := 72) hx hb dX7_addWrapped_34 (by decide) (fun c12 => ?_) (fun c12 => ?_)
        · have hw := hw.1 c12
          obtain ⟨x13, ex13⟩ : ∃ y : Int32, y = i19_4 + (1 : Int32) := ⟨_, rfl⟩
          have hw := hw x13 ex13
          refine lv_iinc (v := x13) (lv' := [(4, .int x13), (0, .ref q_t), (1, .int p0), (2, .int p1), (3, .int p2)]) hx hb dX7_addWrapped_72 hl (k := 4) rfl (by rw [ex13]; rfl) (by decide) rfl (fun ls hl => ?_)
          refine lv_goto (tgt := 19) hx hb dX7_addWrapped_75 (by decide) ?_
          exact hw H locs hP hD hS ls (lv_sub hl [1, 2, 3, 4, 0] rfl)
        · have hw := hw.2 c12
          refine lv_aload_n hx hb dX7_addWrapped_37 rfl (lv_at hl 0 rfl) ?_
          refine va_get (D := G) (ci := 7) (v := .ref q_t_half) (C := RX7) (T := TX7) (N := 4) hx hb hts hkX7_addWrapped_X7 hown hK hP 0 rfl rfl 3 (by decide) (hts (.fieldLink RX7 21 "NestReaders$RunCount" "half" "[J") hfX7_addWrapped_21) (fun _ h9 => h9) rfl dX7_addWrapped_38 ?_
          refine lv_iload hx hb dX7_addWrapped_41 (lv_at hl 4 rfl) ?_
          refine lv_bipush (v := (9)) hx hb dX7_addWrapped_43 (by decide) ?_
          refine lv_idiv hx hb dX7_addWrapped_45 (by decide) ?_
          refine lv_iconst (v := 3) hx hb dX7_addWrapped_46 (by decide) ?_
          refine lv_imul hx hb dX7_addWrapped_47 ?_
          refine lv_iload hx hb dX7_addWrapped_48 (lv_at hl 4 rfl) ?_
          refine lv_iconst (v := 3) hx hb dX7_addWrapped_50 (by decide) ?_
          refine lv_irem hx hb dX7_addWrapped_51 (by decide) ?_
          refine lv_iadd hx hb dX7_addWrapped_52 ?_
          refine lv_dup2_11 hx hb dX7_addWrapped_53 rfl rfl ?_
          refine va_lald (D := G) hx hb hK hP 3 1 rfl rfl hw.1 dX7_addWrapped_54 ?_
          have hw := hw.2
          refine lv_aload_n hx hb dX7_addWrapped_55 rfl (lv_at hl 0 rfl) ?_
          refine va_get (D := G) (ci := 7) (v := .ref q_t_since) (C := RX7) (T := TX7) (N := 4) hx hb hts hkX7_addWrapped_X7 hown hK hP 0 rfl rfl 1 (by decide) (hts (.fieldLink RX7 15 "NestReaders$RunCount" "since" "[J") hfX7_addWrapped_15) (fun _ h9 => h9) rfl dX7_addWrapped_56 ?_
          refine lv_bipush (v := (9)) hx hb dX7_addWrapped_59 (by decide) ?_
          refine lv_iload_n hx hb dX7_addWrapped_61 rfl (lv_at hl 2 rfl) ?_
          refine lv_imul hx hb dX7_addWrapped_62 ?_
          refine lv_iload hx hb dX7_addWrapped_63 (lv_at hl 4 rfl) ?_
          refine lv_bipush (v := (9)) hx hb dX7_addWrapped_65 (by decide) ?_
          refine lv_irem hx hb dX7_addWrapped_67 (by decide) ?_
          refine lv_iadd hx hb dX7_addWrapped_68 ?_
          refine va_lald (D := G) hx hb hK hP 1 1 rfl rfl hw.1 dX7_addWrapped_69 ?_
          have hw := hw.2
          refine lv_ladd hx hb dX7_addWrapped_70 ?_
          refine lv_topl (fun x14 ex14 => ?_)
          have hw := hw x14 ex14
          refine ms_last hx hb hK hP hD hS 3 1 rfl rfl hw.1 dX7_addWrapped_71 (fun g15 H locs eg15 hP hD hS => ?_)
          have hw := hw.2 g15 eg15
          have hP : va_P G vwCl [(q_t, .inr (7, [.ref q_t_come, .ref q_t_since, .ref q_t_factor, .ref q_t_half])), (q_t_since, .inl (cJ, 225, .inr (.inl A_since))), (q_t_factor, .inl (cJ, 9, .inr (.inl A_factor))), (q_t_half, .inl (cJ, 9, .inr (.inl g15)))] H := hP
          have hD : va_D A [(q_t, .inr (7, [.ref q_t_come, .ref q_t_since, .ref q_t_factor, .ref q_t_half])), (q_t_since, .inl (cJ, 225, .inr (.inl A_since))), (q_t_factor, .inl (cJ, 9, .inr (.inl A_factor))), (q_t_half, .inl (cJ, 9, .inr (.inl g15)))] := hD
          obtain ⟨x16, ex16⟩ : ∃ y : Int32, y = i19_4 + (1 : Int32) := ⟨_, rfl⟩
          have hw := hw x16 ex16
          refine lv_iinc (v := x16) (lv' := [(4, .int x16), (0, .ref q_t), (1, .int p0), (2, .int p1), (3, .int p2)]) hx hb dX7_addWrapped_72 hl (k := 4) rfl (by rw [ex16]; rfl) (by decide) rfl (fun ls hl => ?_)
          refine lv_goto (tgt := 19) hx hb dX7_addWrapped_75 (by decide) ?_
          exact hw H locs hP hD hS ls (lv_sub hl [1, 2, 3, 4, 0] rfl)
    · have hw := hw.1 c2
      exact hRet ⟨A_factor, A_half⟩ s.heap [] _ _ hw hP hD hS dX7_addWrapped_8
def wX7_goOn (p0 : Int32) (p1 : Int32) (A_come : Nat → Int64) (A_since : Nat → Int64) (A_factor : Nat → Int64) (K : (Nat → Int64) → (Nat → Int64) → Prop) : Prop :=
  (wX7_times ((3 : Int32) * p0) ((3 : Int32) * p1) (1 : Int32) A_factor A_come 75 (fun u1 => (wX7_times ((9 : Int32) * p0) ((9 : Int32) * p1) (3 : Int32) A_factor A_since 225 (fun u2 => K u1 u2))))
abbrev rmX7_goOn : Room := { frames := 1, cells := 0, slots := 0, locals := 29 }
theorem nd_X7_goOn : yX7_goOn.cls = RX7 ∧ yX7_goOn.cls ≠ "java/lang/invoke/MethodHandle" ∧ yX7_goOn.cls ≠ "java/lang/invoke/VarHandle" ∧ (parseMethodDescriptor yX7_goOn.desc).map (fun d => d.parameters.length) = some 2 := by decide +kernel
theorem hkX7_goOn_X7 : ∀ w ∈ u_ws RX7 TX7 4, w ∈ wsX7_goOn := fun w h => List.mem_cons_of_mem _ (inlX7 w h)
theorem hfX7_goOn_9 : (Cond.fieldLink RX7 9 "NestReaders$RunCount" "come" "[J") ∈ wsX7_goOn := List.mem_cons_of_mem _ m4_23
theorem hfX7_goOn_15 : (Cond.fieldLink RX7 15 "NestReaders$RunCount" "since" "[J") ∈ wsX7_goOn := List.mem_cons_of_mem _ m5_0
set_option maxHeartbeats 4000000 in
set_option maxRecDepth 100000 in
theorem c_X7_goOn (l : Launch) (G : va_G) (cI cJ cZ : ClassId) (q_t q_t_come q_t_since q_t_factor q_t_half : Nat) (sz : Nat) (A_come : Nat → Int64) (A_since : Nat → Int64) (A_factor : Nat → Int64) (p0 : Int32) (p1 : Int32) {K : (Nat → Int64) → (Nat → Int64) → Prop} (hw : wX7_goOn p0 p1 A_come A_since A_factor K) : Met l yX7_goOn wsX7_goOn rmX7_goOn (ms_Pz G (ms_T cI cJ cZ) [(q_t, .inr (7, [.ref q_t_come, .ref q_t_since, .ref q_t_factor, .ref q_t_half])), (q_t_come, .inl (cJ, 75, .inr (.inl A_come))), (q_t_since, .inl (cJ, 225, .inr (.inl A_since))), (q_t_factor, .inl (cJ, 9, .inr (.inl A_factor)))] sz [.ref q_t, .int p0, .int p1]) (ms_Wv G (ms_T cI cJ cZ) (fun (u : (Nat → Int64) × (Nat → Int64)) => K u.1 u.2) (fun u : (Nat → Int64) × (Nat → Int64) => [(q_t, .inr (7, [.ref q_t_come, .ref q_t_since, .ref q_t_factor, .ref q_t_half])), (q_t_come, .inl (cJ, 75, .inr (.inl u.1))), (q_t_since, .inl (cJ, 225, .inr (.inl u.2))), (q_t_factor, .inl (cJ, 9, .inr (.inl A_factor)))]) (va_A [(q_t, .inr (7, [.ref q_t_come, .ref q_t_since, .ref q_t_factor, .ref q_t_half])), (q_t_come, .inl (cJ, 75, .inr (.inl A_come))), (q_t_since, .inl (cJ, 225, .inr (.inl A_since))), (q_t_factor, .inl (cJ, 9, .inr (.inl A_factor)))] sz)) 0 0 (va_A [(q_t, .inr (7, [.ref q_t_come, .ref q_t_since, .ref q_t_factor, .ref q_t_half])), (q_t_come, .inl (cJ, 75, .inr (.inl A_come))), (q_t_since, .inl (cJ, 225, .inr (.inl A_since))), (q_t_factor, .inl (cJ, 9, .inr (.inl A_factor)))] sz) := by
  refine ms_tv (cc := cX7_goOn) (maxL := 3) (by decide) rfl (Nat.le_of_ble_eq_true rfl) ?_
  intro p e s m args below meth c Q A hx hb hml hown hts hK hP hD hS hA hRet ls hl
  have hl : lv_has ls 3 [(0, .ref q_t), (1, .int p0), (2, .int p1)] := hl
  have hown : s.vm.findClass RX7 = some m.cls := hown
  refine lv_aload_n hx hb dX7_goOn_0 rfl (lv_at hl 0 rfl) ?_
  refine lv_aload_n hx hb dX7_goOn_1 rfl (lv_at hl 0 rfl) ?_
  refine va_get (D := G) (ci := 7) (v := .ref q_t_come) (C := RX7) (T := TX7) (N := 4) hx hb hts hkX7_goOn_X7 hown hK hP 0 rfl rfl 0 (by decide) (hts (.fieldLink RX7 9 "NestReaders$RunCount" "come" "[J") hfX7_goOn_9) (fun _ h9 => h9) rfl dX7_goOn_2 ?_
  refine lv_iconst (v := 3) hx hb dX7_goOn_5 (by decide) ?_
  refine lv_iload_n hx hb dX7_goOn_6 rfl (lv_at hl 1 rfl) ?_
  refine lv_imul hx hb dX7_goOn_7 ?_
  refine lv_iconst (v := 3) hx hb dX7_goOn_8 (by decide) ?_
  refine lv_iload_n hx hb dX7_goOn_9 rfl (lv_at hl 2 rfl) ?_
  refine lv_imul hx hb dX7_goOn_10 ?_
  refine lv_iconst (v := 1) hx hb dX7_goOn_11 (by decide) ?_
  refine ms_mVv (wr := [(q_t_since, .inl (cJ, 225, .inr (.inl A_since)))]) ⟨hx, hb, hml, hown, hts⟩ hK hP hD (c_X7_times l G cI cJ cZ q_t q_t_come q_t_since q_t_factor q_t_half q_t_come s.heap.size A_factor A_come ((3 : Int32) * p0) ((3 : Int32) * p1) (1 : Int32) 75 hw) gX7_goOn_X7_times rfl nd_X7_times (ci := 7) rfl rfl rfl ⟨rfl, rfl⟩ rfl ⟨Nat.le_of_ble_eq_true rfl, Nat.le_of_ble_eq_true rfl⟩ hl.1 (rest := []) rfl (Nat.le_of_ble_eq_true rfl)  hS hA [0, 3, 1] [2] rfl rfl rfl (by decide) rfl dX7_goOn_12 (fun u H locs hw hP hD hS => ?_)
  obtain ⟨u1, rfl⟩ : ∃ z, z = u := ⟨_, rfl⟩
  obtain ⟨hP, hD⟩ : ms_PD G A [(q_t, .inr (7, [.ref q_t_come, .ref q_t_since, .ref q_t_factor, .ref q_t_half])), (q_t_come, .inl (cJ, 75, .inr (.inl u1))), (q_t_since, .inl (cJ, 225, .inr (.inl A_since))), (q_t_factor, .inl (cJ, 9, .inr (.inl A_factor)))] H := ms_PDsub hP hD [1, 3, 0, 2] (by decide +kernel) rfl
  refine lv_aload_n hx hb dX7_goOn_15 rfl (lv_at hl 0 rfl) ?_
  refine lv_aload_n hx hb dX7_goOn_16 rfl (lv_at hl 0 rfl) ?_
  refine va_get (D := G) (ci := 7) (v := .ref q_t_since) (C := RX7) (T := TX7) (N := 4) hx hb hts hkX7_goOn_X7 hown hK hP 0 rfl rfl 1 (by decide) (hts (.fieldLink RX7 15 "NestReaders$RunCount" "since" "[J") hfX7_goOn_15) (fun _ h9 => h9) rfl dX7_goOn_17 ?_
  refine lv_bipush (v := (9)) hx hb dX7_goOn_20 (by decide) ?_
  refine lv_iload_n hx hb dX7_goOn_22 rfl (lv_at hl 1 rfl) ?_
  refine lv_imul hx hb dX7_goOn_23 ?_
  refine lv_bipush (v := (9)) hx hb dX7_goOn_24 (by decide) ?_
  refine lv_iload_n hx hb dX7_goOn_26 rfl (lv_at hl 2 rfl) ?_
  refine lv_imul hx hb dX7_goOn_27 ?_
  refine lv_iconst (v := 3) hx hb dX7_goOn_28 (by decide) ?_
  refine ms_mVv (wr := [(q_t_come, .inl (cJ, 75, .inr (.inl u1)))]) ⟨hx, hb, hml, hown, hts⟩ hK hP hD (c_X7_times l G cI cJ cZ q_t q_t_come q_t_since q_t_factor q_t_half q_t_since H.size A_factor A_since ((9 : Int32) * p0) ((9 : Int32) * p1) (3 : Int32) 225 hw) gX7_goOn_X7_times rfl nd_X7_times (ci := 7) rfl rfl rfl ⟨rfl, rfl⟩ rfl ⟨Nat.le_of_ble_eq_true rfl, Nat.le_of_ble_eq_true rfl⟩ hl.1 (rest := []) rfl (Nat.le_of_ble_eq_true rfl)  hS hA [0, 3, 2] [1] rfl rfl rfl (by decide) rfl dX7_goOn_29 (fun u H locs hw hP hD hS => ?_)
  obtain ⟨u2, rfl⟩ : ∃ z, z = u := ⟨_, rfl⟩
  obtain ⟨hP, hD⟩ : ms_PD G A [(q_t, .inr (7, [.ref q_t_come, .ref q_t_since, .ref q_t_factor, .ref q_t_half])), (q_t_come, .inl (cJ, 75, .inr (.inl u1))), (q_t_since, .inl (cJ, 225, .inr (.inl u2))), (q_t_factor, .inl (cJ, 9, .inr (.inl A_factor)))] H := ms_PDsub hP hD [1, 0, 3, 2] (by decide +kernel) rfl
  exact hRet ⟨u1, u2⟩ H locs _ _ hw hP hD hS dX7_goOn_32
def wX7_step_L113 (p2 : Int32) (A_since : Nat → Int64) (A_p0_ways : Nat → Int32) (F_p1_size : Int32) (A_p1_letters : Nat → Int32) (r1 : Int32) (r2 : Int32) (E113 : Int32 → (Nat → Int64) → (Nat → Int64) → Prop) (i113_6 : Int32) (A_factor_113 : Nat → Int64) (A_half_113 : Nat → Int64) : Prop :=
  ∀ P113 : Int32 → (Nat → Int64) → (Nat → Int64) → Prop, (∀ (i113_6 : Int32) (A_factor_113 : Nat → Int64) (A_half_113 : Nat → Int64), (((2 : Int32) ≤ i113_6 → E113 i113_6 A_factor_113 A_half_113) ∧ (¬ (2 : Int32) ≤ i113_6 → (wX6_letterAt r2 F_p1_size A_p1_letters (fun r23 => (wX5_way r23 i113_6 A_p0_ways (fun r24 => (wX5_way r1 i113_6 A_p0_ways (fun r25 => (wX7_addWrapped r24 p2 r25 A_since A_factor_113 A_half_113 (fun u26 u27 => (∀ x28 : Int32, x28 = i113_6 + (1 : Int32) → P113 x28 u26 u27))))))))))) → P113 i113_6 A_factor_113 A_half_113) → P113 i113_6 A_factor_113 A_half_113
def wX7_step (p2 : Int32) (A_come : Nat → Int64) (A_since : Nat → Int64) (A_factor : Nat → Int64) (A_half : Nat → Int64) (A_p0_ways : Nat → Int32) (F_p1_size : Int32) (A_p1_letters : Nat → Int32) (A_p1_base : Nat → Int32) (K : (Nat → Int64) → (Nat → Int64) → (Nat → Int64) → (Nat → Int64) → Prop) : Prop :=
  (wX6_letterAt p2 F_p1_size A_p1_letters (fun r1 => (wX6_openAt p2 F_p1_size A_p1_letters A_p1_base (fun r2 => (wX7_clear A_factor 9 (fun u3 => (wX5_opens r1 (fun r4 => ((r4 = (0 : Int32) → (wX5_isPlain r1 (fun r6 => ((r6 = (0 : Int32) → ((r2 < (0 : Int32) → (wX5_way r1 (-1 : Int32) A_p0_ways (fun r9 => (wX7_addWay r9 u3 (fun u10 => (wX7_goOn p2 (p2 + (1 : Int32)) A_come A_since u10 (fun u11 u12 => (wX7_beginSince (p2 + (1 : Int32)) u12 (fun u13 => K u11 u13 u10 A_half))))))))) ∧ (¬ r2 < (0 : Int32) → ((p2 ≤ r2 → (wX5_way r1 (-1 : Int32) A_p0_ways (fun r15 => (wX7_addWay r15 u3 (fun u16 => (wX7_goOn p2 (p2 + (1 : Int32)) A_come A_since u16 (fun u17 u18 => (wX7_beginSince (p2 + (1 : Int32)) u18 (fun u19 => K u17 u19 u16 A_half))))))))) ∧ (¬ p2 ≤ r2 → (wX7_step_L113 p2 A_since A_p0_ways F_p1_size A_p1_letters r1 r2 (fun i113_6 A_factor_113 A_half_113 => (wX7_goOn r2 (p2 + (1 : Int32)) A_come A_since A_factor_113 (fun u21 u22 => K u21 u22 A_factor_113 A_half_113))) (0 : Int32) u3 A_half)))))) ∧ (¬ r6 = (0 : Int32) → (wX5_way r1 (0 : Int32) A_p0_ways (fun r29 => (wX7_addWay r29 u3 (fun u30 => (wX7_goOn p2 (p2 + (1 : Int32)) A_come A_since u30 (fun u31 u32 => K u31 u32 u30 A_half))))))))))) ∧ (¬ r4 = (0 : Int32) → (wX5_way r1 (0 : Int32) A_p0_ways (fun r33 => (wX7_addWay r33 u3 (fun u34 => (wX5_way r1 (1 : Int32) A_p0_ways (fun r35 => (wX7_addWay r35 u34 (fun u36 => (wX7_goOn p2 (p2 + (1 : Int32)) A_come A_since u36 (fun u37 u38 => (wX7_beginSince (p2 + (1 : Int32)) u38 (fun u39 => K u37 u39 u36 A_half))))))))))))))))))))))
abbrev rmX7_step : Room := { frames := 2, cells := 0, slots := 0, locals := 51 }
theorem nd_X7_step : yX7_step.cls = RX7 ∧ yX7_step.cls ≠ "java/lang/invoke/MethodHandle" ∧ yX7_step.cls ≠ "java/lang/invoke/VarHandle" ∧ (parseMethodDescriptor yX7_step.desc).map (fun d => d.parameters.length) = some 3 := by decide +kernel
theorem hkX7_step_X7 : ∀ w ∈ u_ws RX7 TX7 4, w ∈ wsX7_step := fun w h => List.mem_cons_of_mem _ (inlX7 w h)
theorem hfX7_step_18 : (Cond.fieldLink RX7 18 "NestReaders$RunCount" "factor" "[J") ∈ wsX7_step := List.mem_cons_of_mem _ m5_1
set_option maxHeartbeats 4000000 in
set_option maxRecDepth 100000 in
theorem c_X7_step (l : Launch) (G : va_G) (cI cJ cZ : ClassId) (q_t q_t_come q_t_since q_t_factor q_t_half q_p0 q_p0_ways q_p1 q_p1_letters q_p1_base : Nat) (sz : Nat) (A_come : Nat → Int64) (A_since : Nat → Int64) (A_factor : Nat → Int64) (A_half : Nat → Int64) (F_p0_states : Int32) (F_p0_marks : Int32) (F_p0_takes : Int32) (F_p0_changes : Int32) (A_p0_ways : Nat → Int32) (F_p1_size : Int32) (A_p1_letters : Nat → Int32) (A_p1_base : Nat → Int32) (p2 : Int32) {K : (Nat → Int64) → (Nat → Int64) → (Nat → Int64) → (Nat → Int64) → Prop} (hw : wX7_step p2 A_come A_since A_factor A_half A_p0_ways F_p1_size A_p1_letters A_p1_base K) : Met l yX7_step wsX7_step rmX7_step (ms_Pz G (ms_T cI cJ cZ) [(q_t, .inr (7, [.ref q_t_come, .ref q_t_since, .ref q_t_factor, .ref q_t_half])), (q_t_come, .inl (cJ, 75, .inr (.inl A_come))), (q_t_since, .inl (cJ, 225, .inr (.inl A_since))), (q_t_factor, .inl (cJ, 9, .inr (.inl A_factor))), (q_t_half, .inl (cJ, 9, .inr (.inl A_half))), (q_p0, .inr (5, [.ref q_p0_ways, .int F_p0_states, .int F_p0_marks, .int F_p0_takes, .int F_p0_changes])), (q_p0_ways, .inl (cI, 18, .inl A_p0_ways)), (q_p1, .inr (6, [.ref q_p1_letters, .ref q_p1_base, .int F_p1_size])), (q_p1_letters, .inl (cI, 24, .inl A_p1_letters)), (q_p1_base, .inl (cI, 25, .inl A_p1_base))] sz [.ref q_t, .ref q_p0, .ref q_p1, .int p2]) (ms_Wv G (ms_T cI cJ cZ) (fun (u : (Nat → Int64) × (Nat → Int64) × (Nat → Int64) × (Nat → Int64)) => K u.1 u.2.1 u.2.2.1 u.2.2.2) (fun u : (Nat → Int64) × (Nat → Int64) × (Nat → Int64) × (Nat → Int64) => [(q_t, .inr (7, [.ref q_t_come, .ref q_t_since, .ref q_t_factor, .ref q_t_half])), (q_t_come, .inl (cJ, 75, .inr (.inl u.1))), (q_t_since, .inl (cJ, 225, .inr (.inl u.2.1))), (q_t_factor, .inl (cJ, 9, .inr (.inl u.2.2.1))), (q_t_half, .inl (cJ, 9, .inr (.inl u.2.2.2))), (q_p0, .inr (5, [.ref q_p0_ways, .int F_p0_states, .int F_p0_marks, .int F_p0_takes, .int F_p0_changes])), (q_p0_ways, .inl (cI, 18, .inl A_p0_ways)), (q_p1, .inr (6, [.ref q_p1_letters, .ref q_p1_base, .int F_p1_size])), (q_p1_letters, .inl (cI, 24, .inl A_p1_letters)), (q_p1_base, .inl (cI, 25, .inl A_p1_base))]) (va_A [(q_t, .inr (7, [.ref q_t_come, .ref q_t_since, .ref q_t_factor, .ref q_t_half])), (q_t_come, .inl (cJ, 75, .inr (.inl A_come))), (q_t_since, .inl (cJ, 225, .inr (.inl A_since))), (q_t_factor, .inl (cJ, 9, .inr (.inl A_factor))), (q_t_half, .inl (cJ, 9, .inr (.inl A_half))), (q_p0, .inr (5, [.ref q_p0_ways, .int F_p0_states, .int F_p0_marks, .int F_p0_takes, .int F_p0_changes])), (q_p0_ways, .inl (cI, 18, .inl A_p0_ways)), (q_p1, .inr (6, [.ref q_p1_letters, .ref q_p1_base, .int F_p1_size])), (q_p1_letters, .inl (cI, 24, .inl A_p1_letters)), (q_p1_base, .inl (cI, 25, .inl A_p1_base))] sz)) 0 0 (va_A [(q_t, .inr (7, [.ref q_t_come, .ref q_t_since, .ref q_t_factor, .ref q_t_half])), (q_t_come, .inl (cJ, 75, .inr (.inl A_come))), (q_t_since, .inl (cJ, 225, .inr (.inl A_since))), (q_t_factor, .inl (cJ, 9, .inr (.inl A_factor))), (q_t_half, .inl (cJ, 9, .inr (.inl A_half))), (q_p0, .inr (5, [.ref q_p0_ways, .int F_p0_states, .int F_p0_marks, .int F_p0_takes, .int F_p0_changes])), (q_p0_ways, .inl (cI, 18, .inl A_p0_ways)), (q_p1, .inr (6, [.ref q_p1_letters, .ref q_p1_base, .int F_p1_size])), (q_p1_letters, .inl (cI, 24, .inl A_p1_letters)), (q_p1_base, .inl (cI, 25, .inl A_p1_base))] sz) := by
  refine ms_tv (cc := cX7_step) (maxL := 7) (by decide) rfl (Nat.le_of_ble_eq_true rfl) ?_
  intro p e s m args below meth c Q A hx hb hml hown hts hK hP hD hS hA hRet ls hl
  have hl : lv_has ls 7 [(0, .ref q_t), (1, .ref q_p0), (2, .ref q_p1), (3, .int p2)] := hl
  have hown : s.vm.findClass RX7 = some m.cls := hown
  refine lv_aload_n hx hb dX7_step_0 rfl (lv_at hl 2 rfl) ?_
  refine lv_iload_n hx hb dX7_step_1 rfl (lv_at hl 3 rfl) ?_
  refine ms_cVi ⟨hx, hb, hml, hown, hts⟩ hK hP hD (c_X6_letterAt l G cI cJ cZ q_p1 q_p1_letters q_p1_base F_p1_size A_p1_letters p2 hw) gX7_step_X6_letterAt rfl nd_X6_letterAt (ci := 6) rfl rfl rfl ⟨rfl, rfl⟩ rfl ⟨Nat.le_of_ble_eq_true rfl, Nat.le_of_ble_eq_true rfl⟩ hl.1 (rest := []) rfl (Nat.le_of_ble_eq_true rfl)  [7, 8] rfl rfl dX7_step_2 (fun r1 hw => ?_)
  refine lv_istore (lv' := [(4, .int r1), (0, .ref q_t), (1, .ref q_p0), (2, .ref q_p1), (3, .int p2)]) hx hb dX7_step_5 hl (by decide) rfl (fun ls hl => ?_)
  refine lv_aload_n hx hb dX7_step_7 rfl (lv_at hl 3 rfl) ?_
  refine lv_iload_n hx hb dX7_step_8 rfl (lv_at hl 4 rfl) ?_
  refine ms_cVi ⟨hx, hb, hml, hown, hts⟩ hK hP hD (c_X6_openAt l G cI cJ cZ q_p1 q_p1_letters q_p1_base F_p1_size A_p1_letters A_p1_base p2 hw) gX7_step_X6_openAt rfl nd_X6_openAt (ci := 6) rfl rfl rfl ⟨rfl, rfl⟩ rfl ⟨Nat.le_of_ble_eq_true rfl, Nat.le_of_ble_eq_true rfl⟩ hl.1 (rest := []) rfl (Nat.le_of_ble_eq_true rfl)  [7, 8, 9] rfl rfl dX7_step_9 (fun r2 hw => ?_)
  refine lv_istore (lv' := [(5, .int r2), (4, .int r1), (0, .ref q_t), (1, .ref q_p0), (2, .ref q_p1), (3, .int p2)]) hx hb dX7_step_12 hl (by decide) rfl (fun ls hl => ?_)
  refine lv_aload_n hx hb dX7_step_14 rfl (lv_at hl 2 rfl) ?_
  refine va_get (D := G) (ci := 7) (v := .ref q_t_factor) (C := RX7) (T := TX7) (N := 4) hx hb hts hkX7_step_X7 hown hK hP 0 rfl rfl 2 (by decide) (hts (.fieldLink RX7 18 "NestReaders$RunCount" "factor" "[J") hfX7_step_18) (fun _ h9 => h9) rfl dX7_step_15 ?_
  refine ms_mSv (wr := [(q_t, .inr (7, [.ref q_t_come, .ref q_t_since, .ref q_t_factor, .ref q_t_half])), (q_t_come, .inl (cJ, 75, .inr (.inl A_come))), (q_t_since, .inl (cJ, 225, .inr (.inl A_since))), (q_t_half, .inl (cJ, 9, .inr (.inl A_half))), (q_p0, .inr (5, [.ref q_p0_ways, .int F_p0_states, .int F_p0_marks, .int F_p0_takes, .int F_p0_changes])), (q_p0_ways, .inl (cI, 18, .inl A_p0_ways)), (q_p1, .inr (6, [.ref q_p1_letters, .ref q_p1_base, .int F_p1_size])), (q_p1_letters, .inl (cI, 24, .inl A_p1_letters)), (q_p1_base, .inl (cI, 25, .inl A_p1_base))]) ⟨hx, hb, hml, hown, hts⟩ hK hP hD (c_X7_clear l G cI cJ cZ q_t_factor s.heap.size A_factor 9 hw) gX7_step_X7_clear rfl nd_X7_clear ⟨rfl, rfl⟩ rfl ⟨Nat.le_of_ble_eq_true rfl, Nat.le_of_ble_eq_true rfl⟩ hl.1 (rest := []) rfl (Nat.le_of_ble_eq_true rfl)  hS hA [3] [0, 1, 2, 4, 5, 6, 7, 8, 9] rfl rfl rfl (by decide) rfl dX7_step_18 (fun u H locs hw hP hD hS => ?_)
  obtain ⟨u3, rfl⟩ : ∃ z, z = u := ⟨_, rfl⟩
  obtain ⟨hP, hD⟩ : ms_PD G A [(q_t, .inr (7, [.ref q_t_come, .ref q_t_since, .ref q_t_factor, .ref q_t_half])), (q_t_come, .inl (cJ, 75, .inr (.inl A_come))), (q_t_since, .inl (cJ, 225, .inr (.inl A_since))), (q_t_factor, .inl (cJ, 9, .inr (.inl u3))), (q_t_half, .inl (cJ, 9, .inr (.inl A_half))), (q_p0, .inr (5, [.ref q_p0_ways, .int F_p0_states, .int F_p0_marks, .int F_p0_takes, .int F_p0_changes])), (q_p0_ways, .inl (cI, 18, .inl A_p0_ways)), (q_p1, .inr (6, [.ref q_p1_letters, .ref q_p1_base, .int F_p1_size])), (q_p1_letters, .inl (cI, 24, .inl A_p1_letters)), (q_p1_base, .inl (cI, 25, .inl A_p1_base))] H := ms_PDsub hP hD [0, 1, 2, 9, 3, 4, 5, 6, 7, 8] (by decide +kernel) rfl
  refine lv_iload hx hb dX7_step_21 (lv_at hl 1 rfl) ?_
  refine ms_cSi ⟨hx, hb, hml, hown, hts⟩ hK hP hD (c_X5_opens l G cI cJ cZ r1 hw) gX7_step_X5_opens rfl nd_X5_opens ⟨rfl, rfl⟩ rfl ⟨Nat.le_of_ble_eq_true rfl, Nat.le_of_ble_eq_true rfl⟩ hl.1 (rest := []) rfl (Nat.le_of_ble_eq_true rfl)  [] rfl rfl dX7_step_23 (fun r4 hw => ?_)
  have zzr4 := hw.1
  have hw := hw.2
  refine lv_if_eq (tgt := 69) hx hb dX7_step_26 (by decide) (fun c5 => ?_) (fun c5 => ?_)
  · have hw := hw.1 c5
    refine lv_iload hx hb dX7_step_69 (lv_at hl 1 rfl) ?_
    refine ms_cSi ⟨hx, hb, hml, hown, hts⟩ hK hP hD (c_X5_isPlain l G cI cJ cZ r1 hw) gX7_step_X5_isPlain rfl nd_X5_isPlain ⟨rfl, rfl⟩ rfl ⟨Nat.le_of_ble_eq_true rfl, Nat.le_of_ble_eq_true rfl⟩ hl.1 (rest := []) rfl (Nat.le_of_ble_eq_true rfl)  [] rfl rfl dX7_step_71 (fun r6 hw => ?_)
    have zzr6 := hw.1
    have hw := hw.2
    refine lv_if_eq (tgt := 99) hx hb dX7_step_74 (by decide) (fun c7 => ?_) (fun c7 => ?_)
    · have hw := hw.1 c7
      refine lv_iload hx hb dX7_step_99 (lv_at hl 0 rfl) ?_
      refine lv_if_lt (tgt := 162) hx hb dX7_step_101 (by decide) (fun c8 => ?_) (fun c8 => ?_)
      · have hw := hw.1 c8
        refine lv_aload_n hx hb dX7_step_162 rfl (lv_at hl 2 rfl) ?_
        refine lv_aload_n hx hb dX7_step_163 rfl (lv_at hl 3 rfl) ?_
        refine lv_iload hx hb dX7_step_164 (lv_at hl 1 rfl) ?_
        refine lv_iconst (v := (-1)) hx hb dX7_step_166 (by decide) ?_
        refine ms_cVi ⟨hx, hb, hml, hown, hts⟩ hK hP hD (c_X5_way l G cI cJ cZ q_p0 q_p0_ways F_p0_states F_p0_marks F_p0_takes F_p0_changes A_p0_ways r1 (-1 : Int32) hw) gX7_step_X5_way rfl nd_X5_way (ci := 5) rfl rfl rfl ⟨rfl, rfl⟩ rfl ⟨Nat.le_of_ble_eq_true rfl, Nat.le_of_ble_eq_true rfl⟩ hl.1 (rest := [.ref q_t]) rfl (Nat.le_of_ble_eq_true rfl)  [5, 6] rfl rfl dX7_step_167 (fun r9 hw => ?_)
        refine ms_mVv (wr := [(q_t_come, .inl (cJ, 75, .inr (.inl A_come))), (q_t_since, .inl (cJ, 225, .inr (.inl A_since))), (q_t_half, .inl (cJ, 9, .inr (.inl A_half))), (q_p0, .inr (5, [.ref q_p0_ways, .int F_p0_states, .int F_p0_marks, .int F_p0_takes, .int F_p0_changes])), (q_p0_ways, .inl (cI, 18, .inl A_p0_ways)), (q_p1, .inr (6, [.ref q_p1_letters, .ref q_p1_base, .int F_p1_size])), (q_p1_letters, .inl (cI, 24, .inl A_p1_letters)), (q_p1_base, .inl (cI, 25, .inl A_p1_base))]) ⟨hx, hb, hml, hown, hts⟩ hK hP hD (c_X7_addWay l G cI cJ cZ q_t q_t_come q_t_since q_t_factor q_t_half H.size u3 r9 hw) gX7_step_X7_addWay rfl nd_X7_addWay (ci := 7) rfl rfl rfl ⟨rfl, rfl⟩ rfl ⟨Nat.le_of_ble_eq_true rfl, Nat.le_of_ble_eq_true rfl⟩ hl.1 (rest := []) rfl (Nat.le_of_ble_eq_true rfl)  hS hA [0, 3] [1, 2, 4, 5, 6, 7, 8, 9] rfl rfl rfl (by decide) rfl dX7_step_170 (fun u H locs hw hP hD hS => ?_)
        obtain ⟨u10, rfl⟩ : ∃ z, z = u := ⟨_, rfl⟩
        obtain ⟨hP, hD⟩ : ms_PD G A [(q_t, .inr (7, [.ref q_t_come, .ref q_t_since, .ref q_t_factor, .ref q_t_half])), (q_t_come, .inl (cJ, 75, .inr (.inl A_come))), (q_t_since, .inl (cJ, 225, .inr (.inl A_since))), (q_t_factor, .inl (cJ, 9, .inr (.inl u10))), (q_t_half, .inl (cJ, 9, .inr (.inl A_half))), (q_p0, .inr (5, [.ref q_p0_ways, .int F_p0_states, .int F_p0_marks, .int F_p0_takes, .int F_p0_changes])), (q_p0_ways, .inl (cI, 18, .inl A_p0_ways)), (q_p1, .inr (6, [.ref q_p1_letters, .ref q_p1_base, .int F_p1_size])), (q_p1_letters, .inl (cI, 24, .inl A_p1_letters)), (q_p1_base, .inl (cI, 25, .inl A_p1_base))] H := ms_PDsub hP hD [8, 0, 1, 9, 2, 3, 4, 5, 6, 7] (by decide +kernel) rfl
        refine lv_aload_n hx hb dX7_step_173 rfl (lv_at hl 2 rfl) ?_
        refine lv_iload_n hx hb dX7_step_174 rfl (lv_at hl 5 rfl) ?_
        refine lv_iload_n hx hb dX7_step_175 rfl (lv_at hl 5 rfl) ?_
        refine lv_iconst (v := 1) hx hb dX7_step_176 (by decide) ?_
        refine lv_iadd hx hb dX7_step_177 ?_
        refine ms_mVv (wr := [(q_t_half, .inl (cJ, 9, .inr (.inl A_half))), (q_p0, .inr (5, [.ref q_p0_ways, .int F_p0_states, .int F_p0_marks, .int F_p0_takes, .int F_p0_changes])), (q_p0_ways, .inl (cI, 18, .inl A_p0_ways)), (q_p1, .inr (6, [.ref q_p1_letters, .ref q_p1_base, .int F_p1_size])), (q_p1_letters, .inl (cI, 24, .inl A_p1_letters)), (q_p1_base, .inl (cI, 25, .inl A_p1_base))]) ⟨hx, hb, hml, hown, hts⟩ hK hP hD (c_X7_goOn l G cI cJ cZ q_t q_t_come q_t_since q_t_factor q_t_half H.size A_come A_since u10 p2 (p2 + (1 : Int32)) hw) gX7_step_X7_goOn rfl nd_X7_goOn (ci := 7) rfl rfl rfl ⟨rfl, rfl⟩ rfl ⟨Nat.le_of_ble_eq_true rfl, Nat.le_of_ble_eq_true rfl⟩ hl.1 (rest := []) rfl (Nat.le_of_ble_eq_true rfl)  hS hA [0, 1, 2, 3] [4, 5, 6, 7, 8, 9] rfl rfl rfl (by decide) rfl dX7_step_178 (fun u H locs hw hP hD hS => ?_)
        obtain ⟨u11, u12⟩ := u
        obtain ⟨hP, hD⟩ : ms_PD G A [(q_t, .inr (7, [.ref q_t_come, .ref q_t_since, .ref q_t_factor, .ref q_t_half])), (q_t_come, .inl (cJ, 75, .inr (.inl u11))), (q_t_since, .inl (cJ, 225, .inr (.inl u12))), (q_t_factor, .inl (cJ, 9, .inr (.inl u10))), (q_t_half, .inl (cJ, 9, .inr (.inl A_half))), (q_p0, .inr (5, [.ref q_p0_ways, .int F_p0_states, .int F_p0_marks, .int F_p0_takes, .int F_p0_changes])), (q_p0_ways, .inl (cI, 18, .inl A_p0_ways)), (q_p1, .inr (6, [.ref q_p1_letters, .ref q_p1_base, .int F_p1_size])), (q_p1_letters, .inl (cI, 24, .inl A_p1_letters)), (q_p1_base, .inl (cI, 25, .inl A_p1_base))] H := ms_PDsub hP hD [6, 7, 8, 9, 0, 1, 2, 3, 4, 5] (by decide +kernel) rfl
        refine lv_aload_n hx hb dX7_step_181 rfl (lv_at hl 2 rfl) ?_
        refine lv_iload_n hx hb dX7_step_182 rfl (lv_at hl 5 rfl) ?_
        refine lv_iconst (v := 1) hx hb dX7_step_183 (by decide) ?_
        refine lv_iadd hx hb dX7_step_184 ?_
        refine ms_mVv (wr := [(q_t_come, .inl (cJ, 75, .inr (.inl u11))), (q_t_factor, .inl (cJ, 9, .inr (.inl u10))), (q_t_half, .inl (cJ, 9, .inr (.inl A_half))), (q_p0, .inr (5, [.ref q_p0_ways, .int F_p0_states, .int F_p0_marks, .int F_p0_takes, .int F_p0_changes])), (q_p0_ways, .inl (cI, 18, .inl A_p0_ways)), (q_p1, .inr (6, [.ref q_p1_letters, .ref q_p1_base, .int F_p1_size])), (q_p1_letters, .inl (cI, 24, .inl A_p1_letters)), (q_p1_base, .inl (cI, 25, .inl A_p1_base))]) ⟨hx, hb, hml, hown, hts⟩ hK hP hD (c_X7_beginSince l G cI cJ cZ q_t q_t_come q_t_since q_t_factor q_t_half H.size u12 (p2 + (1 : Int32)) hw) gX7_step_X7_beginSince rfl nd_X7_beginSince (ci := 7) rfl rfl rfl ⟨rfl, rfl⟩ rfl ⟨Nat.le_of_ble_eq_true rfl, Nat.le_of_ble_eq_true rfl⟩ hl.1 (rest := []) rfl (Nat.le_of_ble_eq_true rfl)  hS hA [0, 2] [1, 3, 4, 5, 6, 7, 8, 9] rfl rfl rfl (by decide) rfl dX7_step_185 (fun u H locs hw hP hD hS => ?_)
        obtain ⟨u13, rfl⟩ : ∃ z, z = u := ⟨_, rfl⟩
        obtain ⟨hP, hD⟩ : ms_PD G A [(q_t, .inr (7, [.ref q_t_come, .ref q_t_since, .ref q_t_factor, .ref q_t_half])), (q_t_come, .inl (cJ, 75, .inr (.inl u11))), (q_t_since, .inl (cJ, 225, .inr (.inl u13))), (q_t_factor, .inl (cJ, 9, .inr (.inl u10))), (q_t_half, .inl (cJ, 9, .inr (.inl A_half))), (q_p0, .inr (5, [.ref q_p0_ways, .int F_p0_states, .int F_p0_marks, .int F_p0_takes, .int F_p0_changes])), (q_p0_ways, .inl (cI, 18, .inl A_p0_ways)), (q_p1, .inr (6, [.ref q_p1_letters, .ref q_p1_base, .int F_p1_size])), (q_p1_letters, .inl (cI, 24, .inl A_p1_letters)), (q_p1_base, .inl (cI, 25, .inl A_p1_base))] H := ms_PDsub hP hD [8, 0, 9, 1, 2, 3, 4, 5, 6, 7] (by decide +kernel) rfl
        exact hRet ⟨u11, u13, u10, A_half⟩ H locs _ _ hw hP hD hS dX7_step_188
      · have hw := hw.2 c8
        refine lv_iload hx hb dX7_step_104 (lv_at hl 0 rfl) ?_
        refine lv_iload_n hx hb dX7_step_106 rfl (lv_at hl 5 rfl) ?_
        refine lv_icmp_ge (tgt := 162) hx hb dX7_step_107 (by decide) (fun c14 => ?_) (fun c14 => ?_)
        · have hw := hw.1 c14
          refine lv_aload_n hx hb dX7_step_162 rfl (lv_at hl 2 rfl) ?_
          refine lv_aload_n hx hb dX7_step_163 rfl (lv_at hl 3 rfl) ?_
          refine lv_iload hx hb dX7_step_164 (lv_at hl 1 rfl) ?_
          refine lv_iconst (v := (-1)) hx hb dX7_step_166 (by decide) ?_
          refine ms_cVi ⟨hx, hb, hml, hown, hts⟩ hK hP hD (c_X5_way l G cI cJ cZ q_p0 q_p0_ways F_p0_states F_p0_marks F_p0_takes F_p0_changes A_p0_ways r1 (-1 : Int32) hw) gX7_step_X5_way rfl nd_X5_way (ci := 5) rfl rfl rfl ⟨rfl, rfl⟩ rfl ⟨Nat.le_of_ble_eq_true rfl, Nat.le_of_ble_eq_true rfl⟩ hl.1 (rest := [.ref q_t]) rfl (Nat.le_of_ble_eq_true rfl)  [5, 6] rfl rfl dX7_step_167 (fun r15 hw => ?_)
          refine ms_mVv (wr := [(q_t_come, .inl (cJ, 75, .inr (.inl A_come))), (q_t_since, .inl (cJ, 225, .inr (.inl A_since))), (q_t_half, .inl (cJ, 9, .inr (.inl A_half))), (q_p0, .inr (5, [.ref q_p0_ways, .int F_p0_states, .int F_p0_marks, .int F_p0_takes, .int F_p0_changes])), (q_p0_ways, .inl (cI, 18, .inl A_p0_ways)), (q_p1, .inr (6, [.ref q_p1_letters, .ref q_p1_base, .int F_p1_size])), (q_p1_letters, .inl (cI, 24, .inl A_p1_letters)), (q_p1_base, .inl (cI, 25, .inl A_p1_base))]) ⟨hx, hb, hml, hown, hts⟩ hK hP hD (c_X7_addWay l G cI cJ cZ q_t q_t_come q_t_since q_t_factor q_t_half H.size u3 r15 hw) gX7_step_X7_addWay rfl nd_X7_addWay (ci := 7) rfl rfl rfl ⟨rfl, rfl⟩ rfl ⟨Nat.le_of_ble_eq_true rfl, Nat.le_of_ble_eq_true rfl⟩ hl.1 (rest := []) rfl (Nat.le_of_ble_eq_true rfl)  hS hA [0, 3] [1, 2, 4, 5, 6, 7, 8, 9] rfl rfl rfl (by decide) rfl dX7_step_170 (fun u H locs hw hP hD hS => ?_)
          obtain ⟨u16, rfl⟩ : ∃ z, z = u := ⟨_, rfl⟩
          obtain ⟨hP, hD⟩ : ms_PD G A [(q_t, .inr (7, [.ref q_t_come, .ref q_t_since, .ref q_t_factor, .ref q_t_half])), (q_t_come, .inl (cJ, 75, .inr (.inl A_come))), (q_t_since, .inl (cJ, 225, .inr (.inl A_since))), (q_t_factor, .inl (cJ, 9, .inr (.inl u16))), (q_t_half, .inl (cJ, 9, .inr (.inl A_half))), (q_p0, .inr (5, [.ref q_p0_ways, .int F_p0_states, .int F_p0_marks, .int F_p0_takes, .int F_p0_changes])), (q_p0_ways, .inl (cI, 18, .inl A_p0_ways)), (q_p1, .inr (6, [.ref q_p1_letters, .ref q_p1_base, .int F_p1_size])), (q_p1_letters, .inl (cI, 24, .inl A_p1_letters)), (q_p1_base, .inl (cI, 25, .inl A_p1_base))] H := ms_PDsub hP hD [8, 0, 1, 9, 2, 3, 4, 5, 6, 7] (by decide +kernel) rfl
          refine lv_aload_n hx hb dX7_step_173 rfl (lv_at hl 2 rfl) ?_
          refine lv_iload_n hx hb dX7_step_174 rfl (lv_at hl 5 rfl) ?_
          refine lv_iload_n hx hb dX7_step_175 rfl (lv_at hl 5 rfl) ?_
          refine lv_iconst (v := 1) hx hb dX7_step_176 (by decide) ?_
          refine lv_iadd hx hb dX7_step_177 ?_
          refine ms_mVv (wr := [(q_t_half, .inl (cJ, 9, .inr (.inl A_half))), (q_p0, .inr (5, [.ref q_p0_ways, .int F_p0_states, .int F_p0_marks, .int F_p0_takes, .int F_p0_changes])), (q_p0_ways, .inl (cI, 18, .inl A_p0_ways)), (q_p1, .inr (6, [.ref q_p1_letters, .ref q_p1_base, .int F_p1_size])), (q_p1_letters, .inl (cI, 24, .inl A_p1_letters)), (q_p1_base, .inl (cI, 25, .inl A_p1_base))]) ⟨hx, hb, hml, hown, hts⟩ hK hP hD (c_X7_goOn l G cI cJ cZ q_t q_t_come q_t_since q_t_factor q_t_half H.size A_come A_since u16 p2 (p2 + (1 : Int32)) hw) gX7_step_X7_goOn rfl nd_X7_goOn (ci := 7) rfl rfl rfl ⟨rfl, rfl⟩ rfl ⟨Nat.le_of_ble_eq_true rfl, Nat.le_of_ble_eq_true rfl⟩ hl.1 (rest := []) rfl (Nat.le_of_ble_eq_true rfl)  hS hA [0, 1, 2, 3] [4, 5, 6, 7, 8, 9] rfl rfl rfl (by decide) rfl dX7_step_178 (fun u H locs hw hP hD hS => ?_)
          obtain ⟨u17, u18⟩ := u
          obtain ⟨hP, hD⟩ : ms_PD G A [(q_t, .inr (7, [.ref q_t_come, .ref q_t_since, .ref q_t_factor, .ref q_t_half])), (q_t_come, .inl (cJ, 75, .inr (.inl u17))), (q_t_since, .inl (cJ, 225, .inr (.inl u18))), (q_t_factor, .inl (cJ, 9, .inr (.inl u16))), (q_t_half, .inl (cJ, 9, .inr (.inl A_half))), (q_p0, .inr (5, [.ref q_p0_ways, .int F_p0_states, .int F_p0_marks, .int F_p0_takes, .int F_p0_changes])), (q_p0_ways, .inl (cI, 18, .inl A_p0_ways)), (q_p1, .inr (6, [.ref q_p1_letters, .ref q_p1_base, .int F_p1_size])), (q_p1_letters, .inl (cI, 24, .inl A_p1_letters)), (q_p1_base, .inl (cI, 25, .inl A_p1_base))] H := ms_PDsub hP hD [6, 7, 8, 9, 0, 1, 2, 3, 4, 5] (by decide +kernel) rfl
          refine lv_aload_n hx hb dX7_step_181 rfl (lv_at hl 2 rfl) ?_
          refine lv_iload_n hx hb dX7_step_182 rfl (lv_at hl 5 rfl) ?_
          refine lv_iconst (v := 1) hx hb dX7_step_183 (by decide) ?_
          refine lv_iadd hx hb dX7_step_184 ?_
          refine ms_mVv (wr := [(q_t_come, .inl (cJ, 75, .inr (.inl u17))), (q_t_factor, .inl (cJ, 9, .inr (.inl u16))), (q_t_half, .inl (cJ, 9, .inr (.inl A_half))), (q_p0, .inr (5, [.ref q_p0_ways, .int F_p0_states, .int F_p0_marks, .int F_p0_takes, .int F_p0_changes])), (q_p0_ways, .inl (cI, 18, .inl A_p0_ways)), (q_p1, .inr (6, [.ref q_p1_letters, .ref q_p1_base, .int F_p1_size])), (q_p1_letters, .inl (cI, 24, .inl A_p1_letters)), (q_p1_base, .inl (cI, 25, .inl A_p1_base))]) ⟨hx, hb, hml, hown, hts⟩ hK hP hD (c_X7_beginSince l G cI cJ cZ q_t q_t_come q_t_since q_t_factor q_t_half H.size u18 (p2 + (1 : Int32)) hw) gX7_step_X7_beginSince rfl nd_X7_beginSince (ci := 7) rfl rfl rfl ⟨rfl, rfl⟩ rfl ⟨Nat.le_of_ble_eq_true rfl, Nat.le_of_ble_eq_true rfl⟩ hl.1 (rest := []) rfl (Nat.le_of_ble_eq_true rfl)  hS hA [0, 2] [1, 3, 4, 5, 6, 7, 8, 9] rfl rfl rfl (by decide) rfl dX7_step_185 (fun u H locs hw hP hD hS => ?_)
          obtain ⟨u19, rfl⟩ : ∃ z, z = u := ⟨_, rfl⟩
          obtain ⟨hP, hD⟩ : ms_PD G A [(q_t, .inr (7, [.ref q_t_come, .ref q_t_since, .ref q_t_factor, .ref q_t_half])), (q_t_come, .inl (cJ, 75, .inr (.inl u17))), (q_t_since, .inl (cJ, 225, .inr (.inl u19))), (q_t_factor, .inl (cJ, 9, .inr (.inl u16))), (q_t_half, .inl (cJ, 9, .inr (.inl A_half))), (q_p0, .inr (5, [.ref q_p0_ways, .int F_p0_states, .int F_p0_marks, .int F_p0_takes, .int F_p0_changes])), (q_p0_ways, .inl (cI, 18, .inl A_p0_ways)), (q_p1, .inr (6, [.ref q_p1_letters, .ref q_p1_base, .int F_p1_size])), (q_p1_letters, .inl (cI, 24, .inl A_p1_letters)), (q_p1_base, .inl (cI, 25, .inl A_p1_base))] H := ms_PDsub hP hD [8, 0, 9, 1, 2, 3, 4, 5, 6, 7] (by decide +kernel) rfl
          exact hRet ⟨u17, u19, u16, A_half⟩ H locs _ _ hw hP hD hS dX7_step_188
        · have hw := hw.2 c14
          refine lv_iconst (v := 0) hx hb dX7_step_110 (by decide) ?_
          refine lv_istore (lv' := [(6, .int (0 : Int32)), (5, .int r2), (4, .int r1), (0, .ref q_t), (1, .ref q_p0), (2, .ref q_p1), (3, .int p2)]) hx hb dX7_step_111 hl (by decide) rfl (fun ls hl => ?_)
          refine hw (fun i113_6 A_factor_113 A_half_113 => ∀ (H : Heap) (locs : List Loc), va_P G vwCl [(q_t, .inr (7, [.ref q_t_come, .ref q_t_since, .ref q_t_factor, .ref q_t_half])), (q_t_come, .inl (cJ, 75, .inr (.inl A_come))), (q_t_since, .inl (cJ, 225, .inr (.inl A_since))), (q_t_factor, .inl (cJ, 9, .inr (.inl A_factor_113))), (q_t_half, .inl (cJ, 9, .inr (.inl A_half_113))), (q_p0, .inr (5, [.ref q_p0_ways, .int F_p0_states, .int F_p0_marks, .int F_p0_takes, .int F_p0_changes])), (q_p0_ways, .inl (cI, 18, .inl A_p0_ways)), (q_p1, .inr (6, [.ref q_p1_letters, .ref q_p1_base, .int F_p1_size])), (q_p1_letters, .inl (cI, 24, .inl A_p1_letters)), (q_p1_base, .inl (cI, 25, .inl A_p1_base))] H → va_D A [(q_t, .inr (7, [.ref q_t_come, .ref q_t_since, .ref q_t_factor, .ref q_t_half])), (q_t_come, .inl (cJ, 75, .inr (.inl A_come))), (q_t_since, .inl (cJ, 225, .inr (.inl A_since))), (q_t_factor, .inl (cJ, 9, .inr (.inl A_factor_113))), (q_t_half, .inl (cJ, 9, .inr (.inl A_half_113))), (q_p0, .inr (5, [.ref q_p0_ways, .int F_p0_states, .int F_p0_marks, .int F_p0_takes, .int F_p0_changes])), (q_p0_ways, .inl (cI, 18, .inl A_p0_ways)), (q_p1, .inr (6, [.ref q_p1_letters, .ref q_p1_base, .int F_p1_size])), (q_p1_letters, .inl (cI, 24, .inl A_p1_letters)), (q_p1_base, .inl (cI, 25, .inl A_p1_base))] → va_S A s.heap H locs → ∀ ls : Array Slot, lv_has ls 7 [(0, .ref q_t), (1, .ref q_p0), (2, .ref q_p1), (3, .int p2), (4, .int r1), (5, .int r2), (6, .int i113_6)] → W p l e rmX7_step s m args below meth c H locs 0 0 Q (F0 m 113 ls [])) (fun i113_6 A_factor_113 A_half_113 hw H locs hP hD hS ls hl => ?_) H locs hP hD hS ls (lv_sub hl [3, 4, 5, 6, 2, 1, 0] rfl)
          refine lv_iload hx hb dX7_step_113 (lv_at hl 6 rfl) ?_
          refine lv_iconst (v := 2) hx hb dX7_step_115 (by decide) ?_
          refine lv_icmp_ge (tgt := 150) hx hb dX7_step_116 (by decide) (fun c20 => ?_) (fun c20 => ?_)
          · have hw := hw.1 c20
            refine lv_aload_n hx hb dX7_step_150 rfl (lv_at hl 0 rfl) ?_
            refine lv_iload hx hb dX7_step_151 (lv_at hl 5 rfl) ?_
            refine lv_iload_n hx hb dX7_step_153 rfl (lv_at hl 3 rfl) ?_
            refine lv_iconst (v := 1) hx hb dX7_step_154 (by decide) ?_
            refine lv_iadd hx hb dX7_step_155 ?_
            refine ms_mVv (wr := [(q_t_half, .inl (cJ, 9, .inr (.inl A_half_113))), (q_p0, .inr (5, [.ref q_p0_ways, .int F_p0_states, .int F_p0_marks, .int F_p0_takes, .int F_p0_changes])), (q_p0_ways, .inl (cI, 18, .inl A_p0_ways)), (q_p1, .inr (6, [.ref q_p1_letters, .ref q_p1_base, .int F_p1_size])), (q_p1_letters, .inl (cI, 24, .inl A_p1_letters)), (q_p1_base, .inl (cI, 25, .inl A_p1_base))]) ⟨hx, hb, hml, hown, hts⟩ hK hP hD (c_X7_goOn l G cI cJ cZ q_t q_t_come q_t_since q_t_factor q_t_half H.size A_come A_since A_factor_113 r2 (p2 + (1 : Int32)) hw) gX7_step_X7_goOn rfl nd_X7_goOn (ci := 7) rfl rfl rfl ⟨rfl, rfl⟩ rfl ⟨Nat.le_of_ble_eq_true rfl, Nat.le_of_ble_eq_true rfl⟩ hl.1 (rest := []) rfl (Nat.le_of_ble_eq_true rfl)  hS hA [0, 1, 2, 3] [4, 5, 6, 7, 8, 9] rfl rfl rfl (by decide) rfl dX7_step_156 (fun u H locs hw hP hD hS => ?_)
            obtain ⟨u21, u22⟩ := u
            obtain ⟨hP, hD⟩ : ms_PD G A [(q_t, .inr (7, [.ref q_t_come, .ref q_t_since, .ref q_t_factor, .ref q_t_half])), (q_t_come, .inl (cJ, 75, .inr (.inl u21))), (q_t_since, .inl (cJ, 225, .inr (.inl u22))), (q_t_factor, .inl (cJ, 9, .inr (.inl A_factor_113))), (q_t_half, .inl (cJ, 9, .inr (.inl A_half_113))), (q_p0, .inr (5, [.ref q_p0_ways, .int F_p0_states, .int F_p0_marks, .int F_p0_takes, .int F_p0_changes])), (q_p0_ways, .inl (cI, 18, .inl A_p0_ways)), (q_p1, .inr (6, [.ref q_p1_letters, .ref q_p1_base, .int F_p1_size])), (q_p1_letters, .inl (cI, 24, .inl A_p1_letters)), (q_p1_base, .inl (cI, 25, .inl A_p1_base))] H := ms_PDsub hP hD [6, 7, 8, 9, 0, 1, 2, 3, 4, 5] (by decide +kernel) rfl
            refine lv_goto (tgt := 188) hx hb dX7_step_159 (by decide) ?_
            exact hRet ⟨u21, u22, A_factor_113, A_half_113⟩ H locs _ _ hw hP hD hS dX7_step_188
          · have hw := hw.2 c20
            refine lv_aload_n hx hb dX7_step_119 rfl (lv_at hl 0 rfl) ?_
            refine lv_aload_n hx hb dX7_step_120 rfl (lv_at hl 1 rfl) ?_
            refine lv_aload_n hx hb dX7_step_121 rfl (lv_at hl 2 rfl) ?_
            refine lv_iload hx hb dX7_step_122 (lv_at hl 5 rfl) ?_
            refine ms_cVi ⟨hx, hb, hml, hown, hts⟩ hK hP hD (c_X6_letterAt l G cI cJ cZ q_p1 q_p1_letters q_p1_base F_p1_size A_p1_letters r2 hw) gX7_step_X6_letterAt rfl nd_X6_letterAt (ci := 6) rfl rfl rfl ⟨rfl, rfl⟩ rfl ⟨Nat.le_of_ble_eq_true rfl, Nat.le_of_ble_eq_true rfl⟩ hl.1 (rest := [.ref q_p0, .ref q_t]) rfl (Nat.le_of_ble_eq_true rfl)  [7, 8] rfl rfl dX7_step_124 (fun r23 hw => ?_)
            refine lv_iload hx hb dX7_step_127 (lv_at hl 6 rfl) ?_
            refine ms_cVi ⟨hx, hb, hml, hown, hts⟩ hK hP hD (c_X5_way l G cI cJ cZ q_p0 q_p0_ways F_p0_states F_p0_marks F_p0_takes F_p0_changes A_p0_ways r23 i113_6 hw) gX7_step_X5_way rfl nd_X5_way (ci := 5) rfl rfl rfl ⟨rfl, rfl⟩ rfl ⟨Nat.le_of_ble_eq_true rfl, Nat.le_of_ble_eq_true rfl⟩ hl.1 (rest := [.ref q_t]) rfl (Nat.le_of_ble_eq_true rfl)  [5, 6] rfl rfl dX7_step_129 (fun r24 hw => ?_)
            refine lv_iload_n hx hb dX7_step_132 rfl (lv_at hl 3 rfl) ?_
            refine lv_aload_n hx hb dX7_step_133 rfl (lv_at hl 1 rfl) ?_
            refine lv_iload hx hb dX7_step_134 (lv_at hl 4 rfl) ?_
            refine lv_iload hx hb dX7_step_136 (lv_at hl 6 rfl) ?_
            refine ms_cVi ⟨hx, hb, hml, hown, hts⟩ hK hP hD (c_X5_way l G cI cJ cZ q_p0 q_p0_ways F_p0_states F_p0_marks F_p0_takes F_p0_changes A_p0_ways r1 i113_6 hw) gX7_step_X5_way rfl nd_X5_way (ci := 5) rfl rfl rfl ⟨rfl, rfl⟩ rfl ⟨Nat.le_of_ble_eq_true rfl, Nat.le_of_ble_eq_true rfl⟩ hl.1 (rest := [.int p2, .int r24, .ref q_t]) rfl (Nat.le_of_ble_eq_true rfl)  [5, 6] rfl rfl dX7_step_138 (fun r25 hw => ?_)
            refine ms_mVv (wr := [(q_t_come, .inl (cJ, 75, .inr (.inl A_come))), (q_p0, .inr (5, [.ref q_p0_ways, .int F_p0_states, .int F_p0_marks, .int F_p0_takes, .int F_p0_changes])), (q_p0_ways, .inl (cI, 18, .inl A_p0_ways)), (q_p1, .inr (6, [.ref q_p1_letters, .ref q_p1_base, .int F_p1_size])), (q_p1_letters, .inl (cI, 24, .inl A_p1_letters)), (q_p1_base, .inl (cI, 25, .inl A_p1_base))]) ⟨hx, hb, hml, hown, hts⟩ hK hP hD (c_X7_addWrapped l G cI cJ cZ q_t q_t_come q_t_since q_t_factor q_t_half H.size A_since A_factor_113 A_half_113 r24 p2 r25 hw) gX7_step_X7_addWrapped rfl nd_X7_addWrapped (ci := 7) rfl rfl rfl ⟨rfl, rfl⟩ rfl ⟨Nat.le_of_ble_eq_true rfl, Nat.le_of_ble_eq_true rfl⟩ hl.1 (rest := []) rfl (Nat.le_of_ble_eq_true rfl)  hS hA [0, 2, 3, 4] [1, 5, 6, 7, 8, 9] rfl rfl rfl (by decide) rfl dX7_step_141 (fun u H locs hw hP hD hS => ?_)
            obtain ⟨u26, u27⟩ := u
            obtain ⟨hP, hD⟩ : ms_PD G A [(q_t, .inr (7, [.ref q_t_come, .ref q_t_since, .ref q_t_factor, .ref q_t_half])), (q_t_come, .inl (cJ, 75, .inr (.inl A_come))), (q_t_since, .inl (cJ, 225, .inr (.inl A_since))), (q_t_factor, .inl (cJ, 9, .inr (.inl u26))), (q_t_half, .inl (cJ, 9, .inr (.inl u27))), (q_p0, .inr (5, [.ref q_p0_ways, .int F_p0_states, .int F_p0_marks, .int F_p0_takes, .int F_p0_changes])), (q_p0_ways, .inl (cI, 18, .inl A_p0_ways)), (q_p1, .inr (6, [.ref q_p1_letters, .ref q_p1_base, .int F_p1_size])), (q_p1_letters, .inl (cI, 24, .inl A_p1_letters)), (q_p1_base, .inl (cI, 25, .inl A_p1_base))] H := ms_PDsub hP hD [6, 0, 7, 8, 9, 1, 2, 3, 4, 5] (by decide +kernel) rfl
            obtain ⟨x28, ex28⟩ : ∃ y : Int32, y = i113_6 + (1 : Int32) := ⟨_, rfl⟩
            have hw := hw x28 ex28
            refine lv_iinc (v := x28) (lv' := [(6, .int x28), (0, .ref q_t), (1, .ref q_p0), (2, .ref q_p1), (3, .int p2), (4, .int r1), (5, .int r2)]) hx hb dX7_step_144 hl (k := 6) rfl (by rw [ex28]; rfl) (by decide) rfl (fun ls hl => ?_)
            refine lv_goto (tgt := 113) hx hb dX7_step_147 (by decide) ?_
            exact hw H locs hP hD hS ls (lv_sub hl [1, 2, 3, 4, 5, 6, 0] rfl)
    · have hw := hw.2 c7
      refine lv_aload_n hx hb dX7_step_77 rfl (lv_at hl 2 rfl) ?_
      refine lv_aload_n hx hb dX7_step_78 rfl (lv_at hl 3 rfl) ?_
      refine lv_iload hx hb dX7_step_79 (lv_at hl 1 rfl) ?_
      refine lv_iconst (v := 0) hx hb dX7_step_81 (by decide) ?_
      refine ms_cVi ⟨hx, hb, hml, hown, hts⟩ hK hP hD (c_X5_way l G cI cJ cZ q_p0 q_p0_ways F_p0_states F_p0_marks F_p0_takes F_p0_changes A_p0_ways r1 (0 : Int32) hw) gX7_step_X5_way rfl nd_X5_way (ci := 5) rfl rfl rfl ⟨rfl, rfl⟩ rfl ⟨Nat.le_of_ble_eq_true rfl, Nat.le_of_ble_eq_true rfl⟩ hl.1 (rest := [.ref q_t]) rfl (Nat.le_of_ble_eq_true rfl)  [5, 6] rfl rfl dX7_step_82 (fun r29 hw => ?_)
      refine ms_mVv (wr := [(q_t_come, .inl (cJ, 75, .inr (.inl A_come))), (q_t_since, .inl (cJ, 225, .inr (.inl A_since))), (q_t_half, .inl (cJ, 9, .inr (.inl A_half))), (q_p0, .inr (5, [.ref q_p0_ways, .int F_p0_states, .int F_p0_marks, .int F_p0_takes, .int F_p0_changes])), (q_p0_ways, .inl (cI, 18, .inl A_p0_ways)), (q_p1, .inr (6, [.ref q_p1_letters, .ref q_p1_base, .int F_p1_size])), (q_p1_letters, .inl (cI, 24, .inl A_p1_letters)), (q_p1_base, .inl (cI, 25, .inl A_p1_base))]) ⟨hx, hb, hml, hown, hts⟩ hK hP hD (c_X7_addWay l G cI cJ cZ q_t q_t_come q_t_since q_t_factor q_t_half H.size u3 r29 hw) gX7_step_X7_addWay rfl nd_X7_addWay (ci := 7) rfl rfl rfl ⟨rfl, rfl⟩ rfl ⟨Nat.le_of_ble_eq_true rfl, Nat.le_of_ble_eq_true rfl⟩ hl.1 (rest := []) rfl (Nat.le_of_ble_eq_true rfl)  hS hA [0, 3] [1, 2, 4, 5, 6, 7, 8, 9] rfl rfl rfl (by decide) rfl dX7_step_85 (fun u H locs hw hP hD hS => ?_)
      obtain ⟨u30, rfl⟩ : ∃ z, z = u := ⟨_, rfl⟩
      obtain ⟨hP, hD⟩ : ms_PD G A [(q_t, .inr (7, [.ref q_t_come, .ref q_t_since, .ref q_t_factor, .ref q_t_half])), (q_t_come, .inl (cJ, 75, .inr (.inl A_come))), (q_t_since, .inl (cJ, 225, .inr (.inl A_since))), (q_t_factor, .inl (cJ, 9, .inr (.inl u30))), (q_t_half, .inl (cJ, 9, .inr (.inl A_half))), (q_p0, .inr (5, [.ref q_p0_ways, .int F_p0_states, .int F_p0_marks, .int F_p0_takes, .int F_p0_changes])), (q_p0_ways, .inl (cI, 18, .inl A_p0_ways)), (q_p1, .inr (6, [.ref q_p1_letters, .ref q_p1_base, .int F_p1_size])), (q_p1_letters, .inl (cI, 24, .inl A_p1_letters)), (q_p1_base, .inl (cI, 25, .inl A_p1_base))] H := ms_PDsub hP hD [8, 0, 1, 9, 2, 3, 4, 5, 6, 7] (by decide +kernel) rfl
      refine lv_aload_n hx hb dX7_step_88 rfl (lv_at hl 2 rfl) ?_
      refine lv_iload_n hx hb dX7_step_89 rfl (lv_at hl 5 rfl) ?_
      refine lv_iload_n hx hb dX7_step_90 rfl (lv_at hl 5 rfl) ?_
      refine lv_iconst (v := 1) hx hb dX7_step_91 (by decide) ?_
      refine lv_iadd hx hb dX7_step_92 ?_
      refine ms_mVv (wr := [(q_t_half, .inl (cJ, 9, .inr (.inl A_half))), (q_p0, .inr (5, [.ref q_p0_ways, .int F_p0_states, .int F_p0_marks, .int F_p0_takes, .int F_p0_changes])), (q_p0_ways, .inl (cI, 18, .inl A_p0_ways)), (q_p1, .inr (6, [.ref q_p1_letters, .ref q_p1_base, .int F_p1_size])), (q_p1_letters, .inl (cI, 24, .inl A_p1_letters)), (q_p1_base, .inl (cI, 25, .inl A_p1_base))]) ⟨hx, hb, hml, hown, hts⟩ hK hP hD (c_X7_goOn l G cI cJ cZ q_t q_t_come q_t_since q_t_factor q_t_half H.size A_come A_since u30 p2 (p2 + (1 : Int32)) hw) gX7_step_X7_goOn rfl nd_X7_goOn (ci := 7) rfl rfl rfl ⟨rfl, rfl⟩ rfl ⟨Nat.le_of_ble_eq_true rfl, Nat.le_of_ble_eq_true rfl⟩ hl.1 (rest := []) rfl (Nat.le_of_ble_eq_true rfl)  hS hA [0, 1, 2, 3] [4, 5, 6, 7, 8, 9] rfl rfl rfl (by decide) rfl dX7_step_93 (fun u H locs hw hP hD hS => ?_)
      obtain ⟨u31, u32⟩ := u
      obtain ⟨hP, hD⟩ : ms_PD G A [(q_t, .inr (7, [.ref q_t_come, .ref q_t_since, .ref q_t_factor, .ref q_t_half])), (q_t_come, .inl (cJ, 75, .inr (.inl u31))), (q_t_since, .inl (cJ, 225, .inr (.inl u32))), (q_t_factor, .inl (cJ, 9, .inr (.inl u30))), (q_t_half, .inl (cJ, 9, .inr (.inl A_half))), (q_p0, .inr (5, [.ref q_p0_ways, .int F_p0_states, .int F_p0_marks, .int F_p0_takes, .int F_p0_changes])), (q_p0_ways, .inl (cI, 18, .inl A_p0_ways)), (q_p1, .inr (6, [.ref q_p1_letters, .ref q_p1_base, .int F_p1_size])), (q_p1_letters, .inl (cI, 24, .inl A_p1_letters)), (q_p1_base, .inl (cI, 25, .inl A_p1_base))] H := ms_PDsub hP hD [6, 7, 8, 9, 0, 1, 2, 3, 4, 5] (by decide +kernel) rfl
      refine lv_goto (tgt := 188) hx hb dX7_step_96 (by decide) ?_
      exact hRet ⟨u31, u32, u30, A_half⟩ H locs _ _ hw hP hD hS dX7_step_188
  · have hw := hw.2 c5
    refine lv_aload_n hx hb dX7_step_29 rfl (lv_at hl 2 rfl) ?_
    refine lv_aload_n hx hb dX7_step_30 rfl (lv_at hl 3 rfl) ?_
    refine lv_iload hx hb dX7_step_31 (lv_at hl 1 rfl) ?_
    refine lv_iconst (v := 0) hx hb dX7_step_33 (by decide) ?_
    refine ms_cVi ⟨hx, hb, hml, hown, hts⟩ hK hP hD (c_X5_way l G cI cJ cZ q_p0 q_p0_ways F_p0_states F_p0_marks F_p0_takes F_p0_changes A_p0_ways r1 (0 : Int32) hw) gX7_step_X5_way rfl nd_X5_way (ci := 5) rfl rfl rfl ⟨rfl, rfl⟩ rfl ⟨Nat.le_of_ble_eq_true rfl, Nat.le_of_ble_eq_true rfl⟩ hl.1 (rest := [.ref q_t]) rfl (Nat.le_of_ble_eq_true rfl)  [5, 6] rfl rfl dX7_step_34 (fun r33 hw => ?_)
    refine ms_mVv (wr := [(q_t_come, .inl (cJ, 75, .inr (.inl A_come))), (q_t_since, .inl (cJ, 225, .inr (.inl A_since))), (q_t_half, .inl (cJ, 9, .inr (.inl A_half))), (q_p0, .inr (5, [.ref q_p0_ways, .int F_p0_states, .int F_p0_marks, .int F_p0_takes, .int F_p0_changes])), (q_p0_ways, .inl (cI, 18, .inl A_p0_ways)), (q_p1, .inr (6, [.ref q_p1_letters, .ref q_p1_base, .int F_p1_size])), (q_p1_letters, .inl (cI, 24, .inl A_p1_letters)), (q_p1_base, .inl (cI, 25, .inl A_p1_base))]) ⟨hx, hb, hml, hown, hts⟩ hK hP hD (c_X7_addWay l G cI cJ cZ q_t q_t_come q_t_since q_t_factor q_t_half H.size u3 r33 hw) gX7_step_X7_addWay rfl nd_X7_addWay (ci := 7) rfl rfl rfl ⟨rfl, rfl⟩ rfl ⟨Nat.le_of_ble_eq_true rfl, Nat.le_of_ble_eq_true rfl⟩ hl.1 (rest := []) rfl (Nat.le_of_ble_eq_true rfl)  hS hA [0, 3] [1, 2, 4, 5, 6, 7, 8, 9] rfl rfl rfl (by decide) rfl dX7_step_37 (fun u H locs hw hP hD hS => ?_)
    obtain ⟨u34, rfl⟩ : ∃ z, z = u := ⟨_, rfl⟩
    obtain ⟨hP, hD⟩ : ms_PD G A [(q_t, .inr (7, [.ref q_t_come, .ref q_t_since, .ref q_t_factor, .ref q_t_half])), (q_t_come, .inl (cJ, 75, .inr (.inl A_come))), (q_t_since, .inl (cJ, 225, .inr (.inl A_since))), (q_t_factor, .inl (cJ, 9, .inr (.inl u34))), (q_t_half, .inl (cJ, 9, .inr (.inl A_half))), (q_p0, .inr (5, [.ref q_p0_ways, .int F_p0_states, .int F_p0_marks, .int F_p0_takes, .int F_p0_changes])), (q_p0_ways, .inl (cI, 18, .inl A_p0_ways)), (q_p1, .inr (6, [.ref q_p1_letters, .ref q_p1_base, .int F_p1_size])), (q_p1_letters, .inl (cI, 24, .inl A_p1_letters)), (q_p1_base, .inl (cI, 25, .inl A_p1_base))] H := ms_PDsub hP hD [8, 0, 1, 9, 2, 3, 4, 5, 6, 7] (by decide +kernel) rfl
    refine lv_aload_n hx hb dX7_step_40 rfl (lv_at hl 2 rfl) ?_
    refine lv_aload_n hx hb dX7_step_41 rfl (lv_at hl 3 rfl) ?_
    refine lv_iload hx hb dX7_step_42 (lv_at hl 1 rfl) ?_
    refine lv_iconst (v := 1) hx hb dX7_step_44 (by decide) ?_
    refine ms_cVi ⟨hx, hb, hml, hown, hts⟩ hK hP hD (c_X5_way l G cI cJ cZ q_p0 q_p0_ways F_p0_states F_p0_marks F_p0_takes F_p0_changes A_p0_ways r1 (1 : Int32) hw) gX7_step_X5_way rfl nd_X5_way (ci := 5) rfl rfl rfl ⟨rfl, rfl⟩ rfl ⟨Nat.le_of_ble_eq_true rfl, Nat.le_of_ble_eq_true rfl⟩ hl.1 (rest := [.ref q_t]) rfl (Nat.le_of_ble_eq_true rfl)  [5, 6] rfl rfl dX7_step_45 (fun r35 hw => ?_)
    refine ms_mVv (wr := [(q_t_come, .inl (cJ, 75, .inr (.inl A_come))), (q_t_since, .inl (cJ, 225, .inr (.inl A_since))), (q_t_half, .inl (cJ, 9, .inr (.inl A_half))), (q_p0, .inr (5, [.ref q_p0_ways, .int F_p0_states, .int F_p0_marks, .int F_p0_takes, .int F_p0_changes])), (q_p0_ways, .inl (cI, 18, .inl A_p0_ways)), (q_p1, .inr (6, [.ref q_p1_letters, .ref q_p1_base, .int F_p1_size])), (q_p1_letters, .inl (cI, 24, .inl A_p1_letters)), (q_p1_base, .inl (cI, 25, .inl A_p1_base))]) ⟨hx, hb, hml, hown, hts⟩ hK hP hD (c_X7_addWay l G cI cJ cZ q_t q_t_come q_t_since q_t_factor q_t_half H.size u34 r35 hw) gX7_step_X7_addWay rfl nd_X7_addWay (ci := 7) rfl rfl rfl ⟨rfl, rfl⟩ rfl ⟨Nat.le_of_ble_eq_true rfl, Nat.le_of_ble_eq_true rfl⟩ hl.1 (rest := []) rfl (Nat.le_of_ble_eq_true rfl)  hS hA [0, 3] [1, 2, 4, 5, 6, 7, 8, 9] rfl rfl rfl (by decide) rfl dX7_step_48 (fun u H locs hw hP hD hS => ?_)
    obtain ⟨u36, rfl⟩ : ∃ z, z = u := ⟨_, rfl⟩
    obtain ⟨hP, hD⟩ : ms_PD G A [(q_t, .inr (7, [.ref q_t_come, .ref q_t_since, .ref q_t_factor, .ref q_t_half])), (q_t_come, .inl (cJ, 75, .inr (.inl A_come))), (q_t_since, .inl (cJ, 225, .inr (.inl A_since))), (q_t_factor, .inl (cJ, 9, .inr (.inl u36))), (q_t_half, .inl (cJ, 9, .inr (.inl A_half))), (q_p0, .inr (5, [.ref q_p0_ways, .int F_p0_states, .int F_p0_marks, .int F_p0_takes, .int F_p0_changes])), (q_p0_ways, .inl (cI, 18, .inl A_p0_ways)), (q_p1, .inr (6, [.ref q_p1_letters, .ref q_p1_base, .int F_p1_size])), (q_p1_letters, .inl (cI, 24, .inl A_p1_letters)), (q_p1_base, .inl (cI, 25, .inl A_p1_base))] H := ms_PDsub hP hD [8, 0, 1, 9, 2, 3, 4, 5, 6, 7] (by decide +kernel) rfl
    refine lv_aload_n hx hb dX7_step_51 rfl (lv_at hl 2 rfl) ?_
    refine lv_iload_n hx hb dX7_step_52 rfl (lv_at hl 5 rfl) ?_
    refine lv_iload_n hx hb dX7_step_53 rfl (lv_at hl 5 rfl) ?_
    refine lv_iconst (v := 1) hx hb dX7_step_54 (by decide) ?_
    refine lv_iadd hx hb dX7_step_55 ?_
    refine ms_mVv (wr := [(q_t_half, .inl (cJ, 9, .inr (.inl A_half))), (q_p0, .inr (5, [.ref q_p0_ways, .int F_p0_states, .int F_p0_marks, .int F_p0_takes, .int F_p0_changes])), (q_p0_ways, .inl (cI, 18, .inl A_p0_ways)), (q_p1, .inr (6, [.ref q_p1_letters, .ref q_p1_base, .int F_p1_size])), (q_p1_letters, .inl (cI, 24, .inl A_p1_letters)), (q_p1_base, .inl (cI, 25, .inl A_p1_base))]) ⟨hx, hb, hml, hown, hts⟩ hK hP hD (c_X7_goOn l G cI cJ cZ q_t q_t_come q_t_since q_t_factor q_t_half H.size A_come A_since u36 p2 (p2 + (1 : Int32)) hw) gX7_step_X7_goOn rfl nd_X7_goOn (ci := 7) rfl rfl rfl ⟨rfl, rfl⟩ rfl ⟨Nat.le_of_ble_eq_true rfl, Nat.le_of_ble_eq_true rfl⟩ hl.1 (rest := []) rfl (Nat.le_of_ble_eq_true rfl)  hS hA [0, 1, 2, 3] [4, 5, 6, 7, 8, 9] rfl rfl rfl (by decide) rfl dX7_step_56 (fun u H locs hw hP hD hS => ?_)
    obtain ⟨u37, u38⟩ := u
    obtain ⟨hP, hD⟩ : ms_PD G A [(q_t, .inr (7, [.ref q_t_come, .ref q_t_since, .ref q_t_factor, .ref q_t_half])), (q_t_come, .inl (cJ, 75, .inr (.inl u37))), (q_t_since, .inl (cJ, 225, .inr (.inl u38))), (q_t_factor, .inl (cJ, 9, .inr (.inl u36))), (q_t_half, .inl (cJ, 9, .inr (.inl A_half))), (q_p0, .inr (5, [.ref q_p0_ways, .int F_p0_states, .int F_p0_marks, .int F_p0_takes, .int F_p0_changes])), (q_p0_ways, .inl (cI, 18, .inl A_p0_ways)), (q_p1, .inr (6, [.ref q_p1_letters, .ref q_p1_base, .int F_p1_size])), (q_p1_letters, .inl (cI, 24, .inl A_p1_letters)), (q_p1_base, .inl (cI, 25, .inl A_p1_base))] H := ms_PDsub hP hD [6, 7, 8, 9, 0, 1, 2, 3, 4, 5] (by decide +kernel) rfl
    refine lv_aload_n hx hb dX7_step_59 rfl (lv_at hl 2 rfl) ?_
    refine lv_iload_n hx hb dX7_step_60 rfl (lv_at hl 5 rfl) ?_
    refine lv_iconst (v := 1) hx hb dX7_step_61 (by decide) ?_
    refine lv_iadd hx hb dX7_step_62 ?_
    refine ms_mVv (wr := [(q_t_come, .inl (cJ, 75, .inr (.inl u37))), (q_t_factor, .inl (cJ, 9, .inr (.inl u36))), (q_t_half, .inl (cJ, 9, .inr (.inl A_half))), (q_p0, .inr (5, [.ref q_p0_ways, .int F_p0_states, .int F_p0_marks, .int F_p0_takes, .int F_p0_changes])), (q_p0_ways, .inl (cI, 18, .inl A_p0_ways)), (q_p1, .inr (6, [.ref q_p1_letters, .ref q_p1_base, .int F_p1_size])), (q_p1_letters, .inl (cI, 24, .inl A_p1_letters)), (q_p1_base, .inl (cI, 25, .inl A_p1_base))]) ⟨hx, hb, hml, hown, hts⟩ hK hP hD (c_X7_beginSince l G cI cJ cZ q_t q_t_come q_t_since q_t_factor q_t_half H.size u38 (p2 + (1 : Int32)) hw) gX7_step_X7_beginSince rfl nd_X7_beginSince (ci := 7) rfl rfl rfl ⟨rfl, rfl⟩ rfl ⟨Nat.le_of_ble_eq_true rfl, Nat.le_of_ble_eq_true rfl⟩ hl.1 (rest := []) rfl (Nat.le_of_ble_eq_true rfl)  hS hA [0, 2] [1, 3, 4, 5, 6, 7, 8, 9] rfl rfl rfl (by decide) rfl dX7_step_63 (fun u H locs hw hP hD hS => ?_)
    obtain ⟨u39, rfl⟩ : ∃ z, z = u := ⟨_, rfl⟩
    obtain ⟨hP, hD⟩ : ms_PD G A [(q_t, .inr (7, [.ref q_t_come, .ref q_t_since, .ref q_t_factor, .ref q_t_half])), (q_t_come, .inl (cJ, 75, .inr (.inl u37))), (q_t_since, .inl (cJ, 225, .inr (.inl u39))), (q_t_factor, .inl (cJ, 9, .inr (.inl u36))), (q_t_half, .inl (cJ, 9, .inr (.inl A_half))), (q_p0, .inr (5, [.ref q_p0_ways, .int F_p0_states, .int F_p0_marks, .int F_p0_takes, .int F_p0_changes])), (q_p0_ways, .inl (cI, 18, .inl A_p0_ways)), (q_p1, .inr (6, [.ref q_p1_letters, .ref q_p1_base, .int F_p1_size])), (q_p1_letters, .inl (cI, 24, .inl A_p1_letters)), (q_p1_base, .inl (cI, 25, .inl A_p1_base))] H := ms_PDsub hP hD [8, 0, 9, 1, 2, 3, 4, 5, 6, 7] (by decide +kernel) rfl
    refine lv_goto (tgt := 188) hx hb dX7_step_66 (by decide) ?_
    exact hRet ⟨u37, u39, u36, A_half⟩ H locs _ _ hw hP hD hS dX7_step_188
def wX7_runs_L62 (p2 : Int32) (A_come_29 : Nat → Int64) (E62 : Int64 → Int32 → Prop) (i62_4 : Int64) (i62_6 : Int32) : Prop :=
  ∀ P62 : Int64 → Int32 → Prop, (∀ (i62_4 : Int64) (i62_6 : Int32), (((3 : Int32) ≤ i62_6 → E62 i62_4 i62_6) ∧ (¬ (3 : Int32) ≤ i62_6 → ((p2 < (0 : Int32) → E62 i62_4 i62_6) ∧ (¬ p2 < (0 : Int32) → (((24 : Int32) < p2 → E62 i62_4 i62_6) ∧ (¬ (24 : Int32) < p2 → (vp_in (((3 : Int32) * p2) + i62_6) 75 ∧ (∀ x8 : Int64, x8 = (i62_4 + (A_come_29 (((3 : Int32) * p2) + i62_6).toNatClampNeg)) → (∀ x9 : Int32, x9 = i62_6 + (1 : Int32) → P62 x8 x9))))))))) → P62 i62_4 i62_6) → P62 i62_4 i62_6
def wX7_runs_L29 (p2 : Int32) (A_p0_ways : Nat → Int32) (F_p1_size : Int32) (A_p1_letters : Nat → Int32) (A_p1_base : Nat → Int32) (E29 : Int32 → (Nat → Int64) → (Nat → Int64) → (Nat → Int64) → (Nat → Int64) → Prop) (i29_4 : Int32) (A_come_29 : Nat → Int64) (A_since_29 : Nat → Int64) (A_factor_29 : Nat → Int64) (A_half_29 : Nat → Int64) : Prop :=
  ∀ P29 : Int32 → (Nat → Int64) → (Nat → Int64) → (Nat → Int64) → (Nat → Int64) → Prop, (∀ (i29_4 : Int32) (A_come_29 : Nat → Int64) (A_since_29 : Nat → Int64) (A_factor_29 : Nat → Int64) (A_half_29 : Nat → Int64), ((p2 ≤ i29_4 → E29 i29_4 A_come_29 A_since_29 A_factor_29 A_half_29) ∧ (¬ p2 ≤ i29_4 → (((24 : Int32) ≤ i29_4 → E29 i29_4 A_come_29 A_since_29 A_factor_29 A_half_29) ∧ (¬ (24 : Int32) ≤ i29_4 → (wX7_step i29_4 A_come_29 A_since_29 A_factor_29 A_half_29 A_p0_ways F_p1_size A_p1_letters A_p1_base (fun u12 u13 u14 u15 => (∀ x16 : Int32, x16 = i29_4 + (1 : Int32) → P29 x16 u12 u13 u14 u15))))))) → P29 i29_4 A_come_29 A_since_29 A_factor_29 A_half_29) → P29 i29_4 A_come_29 A_since_29 A_factor_29 A_half_29
def wX7_runs (p2 : Int32) (A_come : Nat → Int64) (A_since : Nat → Int64) (A_factor : Nat → Int64) (A_half : Nat → Int64) (A_p0_ways : Nat → Int32) (F_p1_size : Int32) (A_p1_letters : Nat → Int32) (A_p1_base : Nat → Int32) (K : Int32 → (Nat → Int64) → (Nat → Int64) → (Nat → Int64) → (Nat → Int64) → Prop) : Prop :=
  (vp_in (0 : Int32) 75 ∧ (∀ g1 : Nat → Int64, g1 = vp_updL A_come (0 : Int32).toNatClampNeg (1 : Int64) → (vp_in (1 : Int32) 75 ∧ (∀ g2 : Nat → Int64, g2 = vp_updL g1 (1 : Int32).toNatClampNeg (0 : Int64) → (vp_in (2 : Int32) 75 ∧ (∀ g3 : Nat → Int64, g3 = vp_updL g2 (2 : Int32).toNatClampNeg (0 : Int64) → (wX7_beginSince (0 : Int32) A_since (fun u4 => (∀ E29 : Int32 → (Nat → Int64) → (Nat → Int64) → (Nat → Int64) → (Nat → Int64) → Prop, (∀ (i29_4 : Int32) (A_come_29 : Nat → Int64) (A_since_29 : Nat → Int64) (A_factor_29 : Nat → Int64) (A_half_29 : Nat → Int64), (∀ E62 : Int64 → Int32 → Prop, (∀ (i62_4 : Int64) (i62_6 : Int32), K (((i62_4 - i62_4 / (1000000007 : Int64) * (1000000007 : Int64))).toInt32) A_come_29 A_since_29 A_factor_29 A_half_29 → E62 i62_4 i62_6) → wX7_runs_L62 p2 A_come_29 E62 (0 : Int64) (0 : Int32)) → E29 i29_4 A_come_29 A_since_29 A_factor_29 A_half_29) → wX7_runs_L29 p2 A_p0_ways F_p1_size A_p1_letters A_p1_base E29 (0 : Int32) g3 u4 A_factor A_half)))))))))
abbrev rmX7_runs : Room := { frames := 3, cells := 0, slots := 0, locals := 77 }
theorem nd_X7_runs : yX7_runs.cls = RX7 ∧ yX7_runs.cls ≠ "java/lang/invoke/MethodHandle" ∧ yX7_runs.cls ≠ "java/lang/invoke/VarHandle" ∧ (parseMethodDescriptor yX7_runs.desc).map (fun d => d.parameters.length) = some 3 := by decide +kernel
theorem hkX7_runs_X7 : ∀ w ∈ u_ws RX7 TX7 4, w ∈ wsX7_runs := fun w h => List.mem_cons_of_mem _ (inlX7 w h)
theorem hfX7_runs_9 : (Cond.fieldLink RX7 9 "NestReaders$RunCount" "come" "[J") ∈ wsX7_runs := List.mem_cons_of_mem _ m4_23
theorem hfX7_runs_32 : (Cond.constantLong RX7 32 (1000000007)) ∈ wsX7_runs := List.mem_cons_of_mem _ m26_16
set_option maxHeartbeats 4000000 in
set_option maxRecDepth 100000 in
theorem c_X7_runs (l : Launch) (G : va_G) (cI cJ cZ : ClassId) (q_t q_t_come q_t_since q_t_factor q_t_half q_p0 q_p0_ways q_p1 q_p1_letters q_p1_base : Nat) (sz : Nat) (A_come : Nat → Int64) (A_since : Nat → Int64) (A_factor : Nat → Int64) (A_half : Nat → Int64) (F_p0_states : Int32) (F_p0_marks : Int32) (F_p0_takes : Int32) (F_p0_changes : Int32) (A_p0_ways : Nat → Int32) (F_p1_size : Int32) (A_p1_letters : Nat → Int32) (A_p1_base : Nat → Int32) (p2 : Int32) {K : Int32 → (Nat → Int64) → (Nat → Int64) → (Nat → Int64) → (Nat → Int64) → Prop} (hw : wX7_runs p2 A_come A_since A_factor A_half A_p0_ways F_p1_size A_p1_letters A_p1_base K) : Met l yX7_runs wsX7_runs rmX7_runs (ms_Pz G (ms_T cI cJ cZ) [(q_t, .inr (7, [.ref q_t_come, .ref q_t_since, .ref q_t_factor, .ref q_t_half])), (q_t_come, .inl (cJ, 75, .inr (.inl A_come))), (q_t_since, .inl (cJ, 225, .inr (.inl A_since))), (q_t_factor, .inl (cJ, 9, .inr (.inl A_factor))), (q_t_half, .inl (cJ, 9, .inr (.inl A_half))), (q_p0, .inr (5, [.ref q_p0_ways, .int F_p0_states, .int F_p0_marks, .int F_p0_takes, .int F_p0_changes])), (q_p0_ways, .inl (cI, 18, .inl A_p0_ways)), (q_p1, .inr (6, [.ref q_p1_letters, .ref q_p1_base, .int F_p1_size])), (q_p1_letters, .inl (cI, 24, .inl A_p1_letters)), (q_p1_base, .inl (cI, 25, .inl A_p1_base))] sz [.ref q_t, .ref q_p0, .ref q_p1, .int p2]) (ms_Wi G (ms_T cI cJ cZ) (fun (r : Int32) (u : (Nat → Int64) × (Nat → Int64) × (Nat → Int64) × (Nat → Int64)) => K r u.1 u.2.1 u.2.2.1 u.2.2.2) (fun u : (Nat → Int64) × (Nat → Int64) × (Nat → Int64) × (Nat → Int64) => [(q_t, .inr (7, [.ref q_t_come, .ref q_t_since, .ref q_t_factor, .ref q_t_half])), (q_t_come, .inl (cJ, 75, .inr (.inl u.1))), (q_t_since, .inl (cJ, 225, .inr (.inl u.2.1))), (q_t_factor, .inl (cJ, 9, .inr (.inl u.2.2.1))), (q_t_half, .inl (cJ, 9, .inr (.inl u.2.2.2))), (q_p0, .inr (5, [.ref q_p0_ways, .int F_p0_states, .int F_p0_marks, .int F_p0_takes, .int F_p0_changes])), (q_p0_ways, .inl (cI, 18, .inl A_p0_ways)), (q_p1, .inr (6, [.ref q_p1_letters, .ref q_p1_base, .int F_p1_size])), (q_p1_letters, .inl (cI, 24, .inl A_p1_letters)), (q_p1_base, .inl (cI, 25, .inl A_p1_base))]) (va_A [(q_t, .inr (7, [.ref q_t_come, .ref q_t_since, .ref q_t_factor, .ref q_t_half])), (q_t_come, .inl (cJ, 75, .inr (.inl A_come))), (q_t_since, .inl (cJ, 225, .inr (.inl A_since))), (q_t_factor, .inl (cJ, 9, .inr (.inl A_factor))), (q_t_half, .inl (cJ, 9, .inr (.inl A_half))), (q_p0, .inr (5, [.ref q_p0_ways, .int F_p0_states, .int F_p0_marks, .int F_p0_takes, .int F_p0_changes])), (q_p0_ways, .inl (cI, 18, .inl A_p0_ways)), (q_p1, .inr (6, [.ref q_p1_letters, .ref q_p1_base, .int F_p1_size])), (q_p1_letters, .inl (cI, 24, .inl A_p1_letters)), (q_p1_base, .inl (cI, 25, .inl A_p1_base))] sz)) 0 0 (va_A [(q_t, .inr (7, [.ref q_t_come, .ref q_t_since, .ref q_t_factor, .ref q_t_half])), (q_t_come, .inl (cJ, 75, .inr (.inl A_come))), (q_t_since, .inl (cJ, 225, .inr (.inl A_since))), (q_t_factor, .inl (cJ, 9, .inr (.inl A_factor))), (q_t_half, .inl (cJ, 9, .inr (.inl A_half))), (q_p0, .inr (5, [.ref q_p0_ways, .int F_p0_states, .int F_p0_marks, .int F_p0_takes, .int F_p0_changes])), (q_p0_ways, .inl (cI, 18, .inl A_p0_ways)), (q_p1, .inr (6, [.ref q_p1_letters, .ref q_p1_base, .int F_p1_size])), (q_p1_letters, .inl (cI, 24, .inl A_p1_letters)), (q_p1_base, .inl (cI, 25, .inl A_p1_base))] sz) := by
  refine ms_ti (cc := cX7_runs) (maxL := 7) (ty := .int) (by decide) rfl (Nat.le_of_ble_eq_true rfl) ?_
  intro p e s m args below meth c Q A hx hb hml hown hts hK hP hD hS hA hRet ls hl
  have hl : lv_has ls 7 [(0, .ref q_t), (1, .ref q_p0), (2, .ref q_p1), (3, .int p2)] := hl
  have hown : s.vm.findClass RX7 = some m.cls := hown
  refine lv_aload_n hx hb dX7_runs_0 rfl (lv_at hl 0 rfl) ?_
  refine va_get (D := G) (ci := 7) (v := .ref q_t_come) (C := RX7) (T := TX7) (N := 4) hx hb hts hkX7_runs_X7 hown hK hP 0 rfl rfl 0 (by decide) (hts (.fieldLink RX7 9 "NestReaders$RunCount" "come" "[J") hfX7_runs_9) (fun _ h9 => h9) rfl dX7_runs_1 ?_
  refine lv_iconst (v := 0) hx hb dX7_runs_4 (by decide) ?_
  refine lv_lconst (v := 1) hx hb dX7_runs_5 (by decide) ?_
  refine ms_last hx hb hK hP hD hS 1 1 rfl rfl hw.1 dX7_runs_6 (fun g1 H locs eg1 hP hD hS => ?_)
  have hw := hw.2 g1 eg1
  have hP : va_P G vwCl [(q_t, .inr (7, [.ref q_t_come, .ref q_t_since, .ref q_t_factor, .ref q_t_half])), (q_t_come, .inl (cJ, 75, .inr (.inl g1))), (q_t_since, .inl (cJ, 225, .inr (.inl A_since))), (q_t_factor, .inl (cJ, 9, .inr (.inl A_factor))), (q_t_half, .inl (cJ, 9, .inr (.inl A_half))), (q_p0, .inr (5, [.ref q_p0_ways, .int F_p0_states, .int F_p0_marks, .int F_p0_takes, .int F_p0_changes])), (q_p0_ways, .inl (cI, 18, .inl A_p0_ways)), (q_p1, .inr (6, [.ref q_p1_letters, .ref q_p1_base, .int F_p1_size])), (q_p1_letters, .inl (cI, 24, .inl A_p1_letters)), (q_p1_base, .inl (cI, 25, .inl A_p1_base))] H := hP
  have hD : va_D A [(q_t, .inr (7, [.ref q_t_come, .ref q_t_since, .ref q_t_factor, .ref q_t_half])), (q_t_come, .inl (cJ, 75, .inr (.inl g1))), (q_t_since, .inl (cJ, 225, .inr (.inl A_since))), (q_t_factor, .inl (cJ, 9, .inr (.inl A_factor))), (q_t_half, .inl (cJ, 9, .inr (.inl A_half))), (q_p0, .inr (5, [.ref q_p0_ways, .int F_p0_states, .int F_p0_marks, .int F_p0_takes, .int F_p0_changes])), (q_p0_ways, .inl (cI, 18, .inl A_p0_ways)), (q_p1, .inr (6, [.ref q_p1_letters, .ref q_p1_base, .int F_p1_size])), (q_p1_letters, .inl (cI, 24, .inl A_p1_letters)), (q_p1_base, .inl (cI, 25, .inl A_p1_base))] := hD
  refine lv_aload_n hx hb dX7_runs_7 rfl (lv_at hl 0 rfl) ?_
  refine va_get (D := G) (ci := 7) (v := .ref q_t_come) (C := RX7) (T := TX7) (N := 4) hx hb hts hkX7_runs_X7 hown hK hP 0 rfl rfl 0 (by decide) (hts (.fieldLink RX7 9 "NestReaders$RunCount" "come" "[J") hfX7_runs_9) (fun _ h9 => h9) rfl dX7_runs_8 ?_
  refine lv_iconst (v := 1) hx hb dX7_runs_11 (by decide) ?_
  refine lv_lconst (v := 0) hx hb dX7_runs_12 (by decide) ?_
  refine ms_last hx hb hK hP hD hS 1 1 rfl rfl hw.1 dX7_runs_13 (fun g2 H locs eg2 hP hD hS => ?_)
  have hw := hw.2 g2 eg2
  have hP : va_P G vwCl [(q_t, .inr (7, [.ref q_t_come, .ref q_t_since, .ref q_t_factor, .ref q_t_half])), (q_t_come, .inl (cJ, 75, .inr (.inl g2))), (q_t_since, .inl (cJ, 225, .inr (.inl A_since))), (q_t_factor, .inl (cJ, 9, .inr (.inl A_factor))), (q_t_half, .inl (cJ, 9, .inr (.inl A_half))), (q_p0, .inr (5, [.ref q_p0_ways, .int F_p0_states, .int F_p0_marks, .int F_p0_takes, .int F_p0_changes])), (q_p0_ways, .inl (cI, 18, .inl A_p0_ways)), (q_p1, .inr (6, [.ref q_p1_letters, .ref q_p1_base, .int F_p1_size])), (q_p1_letters, .inl (cI, 24, .inl A_p1_letters)), (q_p1_base, .inl (cI, 25, .inl A_p1_base))] H := hP
  have hD : va_D A [(q_t, .inr (7, [.ref q_t_come, .ref q_t_since, .ref q_t_factor, .ref q_t_half])), (q_t_come, .inl (cJ, 75, .inr (.inl g2))), (q_t_since, .inl (cJ, 225, .inr (.inl A_since))), (q_t_factor, .inl (cJ, 9, .inr (.inl A_factor))), (q_t_half, .inl (cJ, 9, .inr (.inl A_half))), (q_p0, .inr (5, [.ref q_p0_ways, .int F_p0_states, .int F_p0_marks, .int F_p0_takes, .int F_p0_changes])), (q_p0_ways, .inl (cI, 18, .inl A_p0_ways)), (q_p1, .inr (6, [.ref q_p1_letters, .ref q_p1_base, .int F_p1_size])), (q_p1_letters, .inl (cI, 24, .inl A_p1_letters)), (q_p1_base, .inl (cI, 25, .inl A_p1_base))] := hD
  refine lv_aload_n hx hb dX7_runs_14 rfl (lv_at hl 0 rfl) ?_
  refine va_get (D := G) (ci := 7) (v := .ref q_t_come) (C := RX7) (T := TX7) (N := 4) hx hb hts hkX7_runs_X7 hown hK hP 0 rfl rfl 0 (by decide) (hts (.fieldLink RX7 9 "NestReaders$RunCount" "come" "[J") hfX7_runs_9) (fun _ h9 => h9) rfl dX7_runs_15 ?_
  refine lv_iconst (v := 2) hx hb dX7_runs_18 (by decide) ?_
  refine lv_lconst (v := 0) hx hb dX7_runs_19 (by decide) ?_
  refine ms_last hx hb hK hP hD hS 1 1 rfl rfl hw.1 dX7_runs_20 (fun g3 H locs eg3 hP hD hS => ?_)
  have hw := hw.2 g3 eg3
  have hP : va_P G vwCl [(q_t, .inr (7, [.ref q_t_come, .ref q_t_since, .ref q_t_factor, .ref q_t_half])), (q_t_come, .inl (cJ, 75, .inr (.inl g3))), (q_t_since, .inl (cJ, 225, .inr (.inl A_since))), (q_t_factor, .inl (cJ, 9, .inr (.inl A_factor))), (q_t_half, .inl (cJ, 9, .inr (.inl A_half))), (q_p0, .inr (5, [.ref q_p0_ways, .int F_p0_states, .int F_p0_marks, .int F_p0_takes, .int F_p0_changes])), (q_p0_ways, .inl (cI, 18, .inl A_p0_ways)), (q_p1, .inr (6, [.ref q_p1_letters, .ref q_p1_base, .int F_p1_size])), (q_p1_letters, .inl (cI, 24, .inl A_p1_letters)), (q_p1_base, .inl (cI, 25, .inl A_p1_base))] H := hP
  have hD : va_D A [(q_t, .inr (7, [.ref q_t_come, .ref q_t_since, .ref q_t_factor, .ref q_t_half])), (q_t_come, .inl (cJ, 75, .inr (.inl g3))), (q_t_since, .inl (cJ, 225, .inr (.inl A_since))), (q_t_factor, .inl (cJ, 9, .inr (.inl A_factor))), (q_t_half, .inl (cJ, 9, .inr (.inl A_half))), (q_p0, .inr (5, [.ref q_p0_ways, .int F_p0_states, .int F_p0_marks, .int F_p0_takes, .int F_p0_changes])), (q_p0_ways, .inl (cI, 18, .inl A_p0_ways)), (q_p1, .inr (6, [.ref q_p1_letters, .ref q_p1_base, .int F_p1_size])), (q_p1_letters, .inl (cI, 24, .inl A_p1_letters)), (q_p1_base, .inl (cI, 25, .inl A_p1_base))] := hD
  refine lv_aload_n hx hb dX7_runs_21 rfl (lv_at hl 0 rfl) ?_
  refine lv_iconst (v := 0) hx hb dX7_runs_22 (by decide) ?_
  refine ms_mVv (wr := [(q_t_come, .inl (cJ, 75, .inr (.inl g3))), (q_t_factor, .inl (cJ, 9, .inr (.inl A_factor))), (q_t_half, .inl (cJ, 9, .inr (.inl A_half))), (q_p0, .inr (5, [.ref q_p0_ways, .int F_p0_states, .int F_p0_marks, .int F_p0_takes, .int F_p0_changes])), (q_p0_ways, .inl (cI, 18, .inl A_p0_ways)), (q_p1, .inr (6, [.ref q_p1_letters, .ref q_p1_base, .int F_p1_size])), (q_p1_letters, .inl (cI, 24, .inl A_p1_letters)), (q_p1_base, .inl (cI, 25, .inl A_p1_base))]) ⟨hx, hb, hml, hown, hts⟩ hK hP hD (c_X7_beginSince l G cI cJ cZ q_t q_t_come q_t_since q_t_factor q_t_half H.size A_since (0 : Int32) hw) gX7_runs_X7_beginSince rfl nd_X7_beginSince (ci := 7) rfl rfl rfl ⟨rfl, rfl⟩ rfl ⟨Nat.le_of_ble_eq_true rfl, Nat.le_of_ble_eq_true rfl⟩ hl.1 (rest := []) rfl (Nat.le_of_ble_eq_true rfl)  hS hA [0, 2] [1, 3, 4, 5, 6, 7, 8, 9] rfl rfl rfl (by decide) rfl dX7_runs_23 (fun u H locs hw hP hD hS => ?_)
  obtain ⟨u4, rfl⟩ : ∃ z, z = u := ⟨_, rfl⟩
  obtain ⟨hP, hD⟩ : ms_PD G A [(q_t, .inr (7, [.ref q_t_come, .ref q_t_since, .ref q_t_factor, .ref q_t_half])), (q_t_come, .inl (cJ, 75, .inr (.inl g3))), (q_t_since, .inl (cJ, 225, .inr (.inl u4))), (q_t_factor, .inl (cJ, 9, .inr (.inl A_factor))), (q_t_half, .inl (cJ, 9, .inr (.inl A_half))), (q_p0, .inr (5, [.ref q_p0_ways, .int F_p0_states, .int F_p0_marks, .int F_p0_takes, .int F_p0_changes])), (q_p0_ways, .inl (cI, 18, .inl A_p0_ways)), (q_p1, .inr (6, [.ref q_p1_letters, .ref q_p1_base, .int F_p1_size])), (q_p1_letters, .inl (cI, 24, .inl A_p1_letters)), (q_p1_base, .inl (cI, 25, .inl A_p1_base))] H := ms_PDsub hP hD [8, 0, 9, 1, 2, 3, 4, 5, 6, 7] (by decide +kernel) rfl
  refine lv_iconst (v := 0) hx hb dX7_runs_26 (by decide) ?_
  refine lv_istore (lv' := [(4, .int (0 : Int32)), (0, .ref q_t), (1, .ref q_p0), (2, .ref q_p1), (3, .int p2)]) hx hb dX7_runs_27 hl (by decide) rfl (fun ls hl => ?_)
  have hw := hw (fun i29_4 A_come_29 A_since_29 A_factor_29 A_half_29 => ∀ (H : Heap) (locs : List Loc), va_P G vwCl [(q_t, .inr (7, [.ref q_t_come, .ref q_t_since, .ref q_t_factor, .ref q_t_half])), (q_t_come, .inl (cJ, 75, .inr (.inl A_come_29))), (q_t_since, .inl (cJ, 225, .inr (.inl A_since_29))), (q_t_factor, .inl (cJ, 9, .inr (.inl A_factor_29))), (q_t_half, .inl (cJ, 9, .inr (.inl A_half_29))), (q_p0, .inr (5, [.ref q_p0_ways, .int F_p0_states, .int F_p0_marks, .int F_p0_takes, .int F_p0_changes])), (q_p0_ways, .inl (cI, 18, .inl A_p0_ways)), (q_p1, .inr (6, [.ref q_p1_letters, .ref q_p1_base, .int F_p1_size])), (q_p1_letters, .inl (cI, 24, .inl A_p1_letters)), (q_p1_base, .inl (cI, 25, .inl A_p1_base))] H → va_D A [(q_t, .inr (7, [.ref q_t_come, .ref q_t_since, .ref q_t_factor, .ref q_t_half])), (q_t_come, .inl (cJ, 75, .inr (.inl A_come_29))), (q_t_since, .inl (cJ, 225, .inr (.inl A_since_29))), (q_t_factor, .inl (cJ, 9, .inr (.inl A_factor_29))), (q_t_half, .inl (cJ, 9, .inr (.inl A_half_29))), (q_p0, .inr (5, [.ref q_p0_ways, .int F_p0_states, .int F_p0_marks, .int F_p0_takes, .int F_p0_changes])), (q_p0_ways, .inl (cI, 18, .inl A_p0_ways)), (q_p1, .inr (6, [.ref q_p1_letters, .ref q_p1_base, .int F_p1_size])), (q_p1_letters, .inl (cI, 24, .inl A_p1_letters)), (q_p1_base, .inl (cI, 25, .inl A_p1_base))] → va_S A s.heap H locs → ∀ ls : Array Slot, lv_has ls 7 [(0, .ref q_t), (3, .int p2)] → W p l e rmX7_runs s m args below meth c H locs 0 0 Q (F0 m 56 ls [])) (fun i29_4 A_come_29 A_since_29 A_factor_29 A_half_29 hw H locs hP hD hS ls hl => by
    refine lv_lconst (v := 0) hx hb dX7_runs_56 (by decide) ?_
    refine lv_lstore (lv' := [(4, .long (0 : Int64)), (0, .ref q_t), (3, .int p2)]) hx hb dX7_runs_57 hl (by decide) rfl (fun ls hl => ?_)
    refine lv_iconst (v := 0) hx hb dX7_runs_59 (by decide) ?_
    refine lv_istore (lv' := [(6, .int (0 : Int32)), (4, .long (0 : Int64)), (0, .ref q_t), (3, .int p2)]) hx hb dX7_runs_60 hl (by decide) rfl (fun ls hl => ?_)
    have hw := hw (fun i62_4 i62_6 => ∀ (H : Heap) (locs : List Loc), va_P G vwCl [(q_t, .inr (7, [.ref q_t_come, .ref q_t_since, .ref q_t_factor, .ref q_t_half])), (q_t_come, .inl (cJ, 75, .inr (.inl A_come_29))), (q_t_since, .inl (cJ, 225, .inr (.inl A_since_29))), (q_t_factor, .inl (cJ, 9, .inr (.inl A_factor_29))), (q_t_half, .inl (cJ, 9, .inr (.inl A_half_29))), (q_p0, .inr (5, [.ref q_p0_ways, .int F_p0_states, .int F_p0_marks, .int F_p0_takes, .int F_p0_changes])), (q_p0_ways, .inl (cI, 18, .inl A_p0_ways)), (q_p1, .inr (6, [.ref q_p1_letters, .ref q_p1_base, .int F_p1_size])), (q_p1_letters, .inl (cI, 24, .inl A_p1_letters)), (q_p1_base, .inl (cI, 25, .inl A_p1_base))] H → va_D A [(q_t, .inr (7, [.ref q_t_come, .ref q_t_since, .ref q_t_factor, .ref q_t_half])), (q_t_come, .inl (cJ, 75, .inr (.inl A_come_29))), (q_t_since, .inl (cJ, 225, .inr (.inl A_since_29))), (q_t_factor, .inl (cJ, 9, .inr (.inl A_factor_29))), (q_t_half, .inl (cJ, 9, .inr (.inl A_half_29))), (q_p0, .inr (5, [.ref q_p0_ways, .int F_p0_states, .int F_p0_marks, .int F_p0_takes, .int F_p0_changes])), (q_p0_ways, .inl (cI, 18, .inl A_p0_ways)), (q_p1, .inr (6, [.ref q_p1_letters, .ref q_p1_base, .int F_p1_size])), (q_p1_letters, .inl (cI, 24, .inl A_p1_letters)), (q_p1_base, .inl (cI, 25, .inl A_p1_base))] → va_S A s.heap H locs → ∀ ls : Array Slot, lv_has ls 7 [(4, .long i62_4)] → W p l e rmX7_runs s m args below meth c H locs 0 0 Q (F0 m 100 ls [])) (fun i62_4 i62_6 hw H locs hP hD hS ls hl => by
      refine lv_lload hx hb dX7_runs_100 (lv_at hl 0 rfl) ?_
      refine lv_ldc2 hx hb (v := (1000000007)) hown (hts (.constantLong RX7 32 (1000000007)) hfX7_runs_32) dX7_runs_102 ?_
      refine lv_lrem hx hb dX7_runs_105 (by decide) ?_
      refine lv_l2i hx hb dX7_runs_106 rfl ?_
      exact hRet (((i62_4 - i62_4 / (1000000007 : Int64) * (1000000007 : Int64))).toInt32) ⟨A_come_29, A_since_29, A_factor_29, A_half_29⟩ H locs _ _ hw (vp_nar_int _) hP hD hS dX7_runs_107
      )
    refine hw (fun i62_4 i62_6 => ∀ (H : Heap) (locs : List Loc), va_P G vwCl [(q_t, .inr (7, [.ref q_t_come, .ref q_t_since, .ref q_t_factor, .ref q_t_half])), (q_t_come, .inl (cJ, 75, .inr (.inl A_come_29))), (q_t_since, .inl (cJ, 225, .inr (.inl A_since_29))), (q_t_factor, .inl (cJ, 9, .inr (.inl A_factor_29))), (q_t_half, .inl (cJ, 9, .inr (.inl A_half_29))), (q_p0, .inr (5, [.ref q_p0_ways, .int F_p0_states, .int F_p0_marks, .int F_p0_takes, .int F_p0_changes])), (q_p0_ways, .inl (cI, 18, .inl A_p0_ways)), (q_p1, .inr (6, [.ref q_p1_letters, .ref q_p1_base, .int F_p1_size])), (q_p1_letters, .inl (cI, 24, .inl A_p1_letters)), (q_p1_base, .inl (cI, 25, .inl A_p1_base))] H → va_D A [(q_t, .inr (7, [.ref q_t_come, .ref q_t_since, .ref q_t_factor, .ref q_t_half])), (q_t_come, .inl (cJ, 75, .inr (.inl A_come_29))), (q_t_since, .inl (cJ, 225, .inr (.inl A_since_29))), (q_t_factor, .inl (cJ, 9, .inr (.inl A_factor_29))), (q_t_half, .inl (cJ, 9, .inr (.inl A_half_29))), (q_p0, .inr (5, [.ref q_p0_ways, .int F_p0_states, .int F_p0_marks, .int F_p0_takes, .int F_p0_changes])), (q_p0_ways, .inl (cI, 18, .inl A_p0_ways)), (q_p1, .inr (6, [.ref q_p1_letters, .ref q_p1_base, .int F_p1_size])), (q_p1_letters, .inl (cI, 24, .inl A_p1_letters)), (q_p1_base, .inl (cI, 25, .inl A_p1_base))] → va_S A s.heap H locs → ∀ ls : Array Slot, lv_has ls 7 [(0, .ref q_t), (3, .int p2), (4, .long i62_4), (6, .int i62_6)] → W p l e rmX7_runs s m args below meth c H locs 0 0 Q (F0 m 62 ls [])) (fun i62_4 i62_6 hw H locs hP hD hS ls hl => ?_) H locs hP hD hS ls (lv_sub hl [2, 3, 1, 0] rfl)
    refine lv_iload hx hb dX7_runs_62 (lv_at hl 3 rfl) ?_
    refine lv_iconst (v := 3) hx hb dX7_runs_64 (by decide) ?_
    refine lv_icmp_ge (tgt := 100) hx hb dX7_runs_65 (by decide) (fun c5 => ?_) (fun c5 => ?_)
    · have hw := hw.1 c5
      exact hw H locs hP hD hS ls (lv_sub hl [2] rfl)
    · have hw := hw.2 c5
      refine lv_iload_n hx hb dX7_runs_68 rfl (lv_at hl 1 rfl) ?_
      refine lv_if_lt (tgt := 100) hx hb dX7_runs_69 (by decide) (fun c6 => ?_) (fun c6 => ?_)
      · have hw := hw.1 c6
        exact hw H locs hP hD hS ls (lv_sub hl [2] rfl)
      · have hw := hw.2 c6
        refine lv_iload_n hx hb dX7_runs_72 rfl (lv_at hl 1 rfl) ?_
        refine lv_bipush (v := (24)) hx hb dX7_runs_73 (by decide) ?_
        refine lv_icmp_gt (tgt := 100) hx hb dX7_runs_75 (by decide) (fun c7 => ?_) (fun c7 => ?_)
        · have hw := hw.1 c7
          exact hw H locs hP hD hS ls (lv_sub hl [2] rfl)
        · have hw := hw.2 c7
          refine lv_lload hx hb dX7_runs_78 (lv_at hl 2 rfl) ?_
          refine lv_aload_n hx hb dX7_runs_80 rfl (lv_at hl 0 rfl) ?_
          refine va_get (D := G) (ci := 7) (v := .ref q_t_come) (C := RX7) (T := TX7) (N := 4) hx hb hts hkX7_runs_X7 hown hK hP 0 rfl rfl 0 (by decide) (hts (.fieldLink RX7 9 "NestReaders$RunCount" "come" "[J") hfX7_runs_9) (fun _ h9 => h9) rfl dX7_runs_81 ?_
          refine lv_iconst (v := 3) hx hb dX7_runs_84 (by decide) ?_
          refine lv_iload_n hx hb dX7_runs_85 rfl (lv_at hl 1 rfl) ?_
          refine lv_imul hx hb dX7_runs_86 ?_
          refine lv_iload hx hb dX7_runs_87 (lv_at hl 3 rfl) ?_
          refine lv_iadd hx hb dX7_runs_89 ?_
          refine va_lald (D := G) hx hb hK hP 1 1 rfl rfl hw.1 dX7_runs_90 ?_
          have hw := hw.2
          refine lv_ladd hx hb dX7_runs_91 ?_
          refine lv_topl (fun x8 ex8 => ?_)
          have hw := hw x8 ex8
          refine lv_lstore (lv' := [(4, .long x8), (0, .ref q_t), (3, .int p2), (6, .int i62_6)]) hx hb dX7_runs_92 hl (by decide) rfl (fun ls hl => ?_)
          obtain ⟨x9, ex9⟩ : ∃ y : Int32, y = i62_6 + (1 : Int32) := ⟨_, rfl⟩
          have hw := hw x9 ex9
          refine lv_iinc (v := x9) (lv' := [(6, .int x9), (4, .long x8), (0, .ref q_t), (3, .int p2)]) hx hb dX7_runs_94 hl (k := 3) rfl (by rw [ex9]; rfl) (by decide) rfl (fun ls hl => ?_)
          refine lv_goto (tgt := 62) hx hb dX7_runs_97 (by decide) ?_
          exact hw H locs hP hD hS ls (lv_sub hl [2, 3, 1, 0] rfl)
    )
  refine hw (fun i29_4 A_come_29 A_since_29 A_factor_29 A_half_29 => ∀ (H : Heap) (locs : List Loc), va_P G vwCl [(q_t, .inr (7, [.ref q_t_come, .ref q_t_since, .ref q_t_factor, .ref q_t_half])), (q_t_come, .inl (cJ, 75, .inr (.inl A_come_29))), (q_t_since, .inl (cJ, 225, .inr (.inl A_since_29))), (q_t_factor, .inl (cJ, 9, .inr (.inl A_factor_29))), (q_t_half, .inl (cJ, 9, .inr (.inl A_half_29))), (q_p0, .inr (5, [.ref q_p0_ways, .int F_p0_states, .int F_p0_marks, .int F_p0_takes, .int F_p0_changes])), (q_p0_ways, .inl (cI, 18, .inl A_p0_ways)), (q_p1, .inr (6, [.ref q_p1_letters, .ref q_p1_base, .int F_p1_size])), (q_p1_letters, .inl (cI, 24, .inl A_p1_letters)), (q_p1_base, .inl (cI, 25, .inl A_p1_base))] H → va_D A [(q_t, .inr (7, [.ref q_t_come, .ref q_t_since, .ref q_t_factor, .ref q_t_half])), (q_t_come, .inl (cJ, 75, .inr (.inl A_come_29))), (q_t_since, .inl (cJ, 225, .inr (.inl A_since_29))), (q_t_factor, .inl (cJ, 9, .inr (.inl A_factor_29))), (q_t_half, .inl (cJ, 9, .inr (.inl A_half_29))), (q_p0, .inr (5, [.ref q_p0_ways, .int F_p0_states, .int F_p0_marks, .int F_p0_takes, .int F_p0_changes])), (q_p0_ways, .inl (cI, 18, .inl A_p0_ways)), (q_p1, .inr (6, [.ref q_p1_letters, .ref q_p1_base, .int F_p1_size])), (q_p1_letters, .inl (cI, 24, .inl A_p1_letters)), (q_p1_base, .inl (cI, 25, .inl A_p1_base))] → va_S A s.heap H locs → ∀ ls : Array Slot, lv_has ls 7 [(0, .ref q_t), (1, .ref q_p0), (2, .ref q_p1), (3, .int p2), (4, .int i29_4)] → W p l e rmX7_runs s m args below meth c H locs 0 0 Q (F0 m 29 ls [])) (fun i29_4 A_come_29 A_since_29 A_factor_29 A_half_29 hw H locs hP hD hS ls hl => ?_) H locs hP hD hS ls (lv_sub hl [1, 2, 3, 4, 0] rfl)
  refine lv_iload hx hb dX7_runs_29 (lv_at hl 4 rfl) ?_
  refine lv_iload_n hx hb dX7_runs_31 rfl (lv_at hl 3 rfl) ?_
  refine lv_icmp_ge (tgt := 56) hx hb dX7_runs_32 (by decide) (fun c10 => ?_) (fun c10 => ?_)
  · have hw := hw.1 c10
    exact hw H locs hP hD hS ls (lv_sub hl [0, 3] rfl)
  · have hw := hw.2 c10
    refine lv_iload hx hb dX7_runs_35 (lv_at hl 4 rfl) ?_
    refine lv_bipush (v := (24)) hx hb dX7_runs_37 (by decide) ?_
    refine lv_icmp_ge (tgt := 56) hx hb dX7_runs_39 (by decide) (fun c11 => ?_) (fun c11 => ?_)
    · have hw := hw.1 c11
      exact hw H locs hP hD hS ls (lv_sub hl [0, 3] rfl)
    · have hw := hw.2 c11
      refine lv_aload_n hx hb dX7_runs_42 rfl (lv_at hl 0 rfl) ?_
      refine lv_aload_n hx hb dX7_runs_43 rfl (lv_at hl 1 rfl) ?_
      refine lv_aload_n hx hb dX7_runs_44 rfl (lv_at hl 2 rfl) ?_
      refine lv_iload hx hb dX7_runs_45 (lv_at hl 4 rfl) ?_
      refine ms_mVv (wr := []) ⟨hx, hb, hml, hown, hts⟩ hK hP hD (c_X7_step l G cI cJ cZ q_t q_t_come q_t_since q_t_factor q_t_half q_p0 q_p0_ways q_p1 q_p1_letters q_p1_base H.size A_come_29 A_since_29 A_factor_29 A_half_29 F_p0_states F_p0_marks F_p0_takes F_p0_changes A_p0_ways F_p1_size A_p1_letters A_p1_base i29_4 hw) gX7_runs_X7_step rfl nd_X7_step (ci := 7) rfl rfl rfl ⟨rfl, rfl⟩ rfl ⟨Nat.le_of_ble_eq_true rfl, Nat.le_of_ble_eq_true rfl⟩ hl.1 (rest := []) rfl (Nat.le_of_ble_eq_true rfl)  hS hA [0, 1, 2, 3, 4, 5, 6, 7, 8, 9] [] rfl rfl rfl (by decide) rfl dX7_runs_47 (fun u H locs hw hP hD hS => ?_)
      obtain ⟨u12, u13, u14, u15⟩ := u
      obtain ⟨hP, hD⟩ : ms_PD G A [(q_t, .inr (7, [.ref q_t_come, .ref q_t_since, .ref q_t_factor, .ref q_t_half])), (q_t_come, .inl (cJ, 75, .inr (.inl u12))), (q_t_since, .inl (cJ, 225, .inr (.inl u13))), (q_t_factor, .inl (cJ, 9, .inr (.inl u14))), (q_t_half, .inl (cJ, 9, .inr (.inl u15))), (q_p0, .inr (5, [.ref q_p0_ways, .int F_p0_states, .int F_p0_marks, .int F_p0_takes, .int F_p0_changes])), (q_p0_ways, .inl (cI, 18, .inl A_p0_ways)), (q_p1, .inr (6, [.ref q_p1_letters, .ref q_p1_base, .int F_p1_size])), (q_p1_letters, .inl (cI, 24, .inl A_p1_letters)), (q_p1_base, .inl (cI, 25, .inl A_p1_base))] H := ms_PDsub hP hD [0, 1, 2, 3, 4, 5, 6, 7, 8, 9] (by decide +kernel) rfl
      obtain ⟨x16, ex16⟩ : ∃ y : Int32, y = i29_4 + (1 : Int32) := ⟨_, rfl⟩
      have hw := hw x16 ex16
      refine lv_iinc (v := x16) (lv' := [(4, .int x16), (0, .ref q_t), (1, .ref q_p0), (2, .ref q_p1), (3, .int p2)]) hx hb dX7_runs_50 hl (k := 4) rfl (by rw [ex16]; rfl) (by decide) rfl (fun ls hl => ?_)
      refine lv_goto (tgt := 29) hx hb dX7_runs_53 (by decide) ?_
      exact hw H locs hP hD hS ls (lv_sub hl [1, 2, 3, 4, 0] rfl)
