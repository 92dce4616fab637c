theorem dX9_init_0 : decode cX9_init 0 = .ok (.aload_n 0, 1) := by decide +kernel
theorem dX9_init_1 : decode cX9_init 1 = .ok (.invokespecial 3, 3) := by decide +kernel
theorem dX9_init_4 : decode cX9_init 4 = .ok (.aload_n 0, 1) := by decide +kernel
theorem dX9_init_5 : decode cX9_init 5 = .ok (.bipush 25, 2) := by decide +kernel
theorem dX9_init_7 : decode cX9_init 7 = .ok (.newarray .int, 2) := by decide +kernel
theorem dX9_init_9 : decode cX9_init 9 = .ok (.putfield 9, 3) := by decide +kernel
theorem dX9_init_12 : decode cX9_init 12 = .ok (.aload_n 0, 1) := by decide +kernel
theorem dX9_init_13 : decode cX9_init 13 = .ok (.bipush 25, 2) := by decide +kernel
theorem dX9_init_15 : decode cX9_init 15 = .ok (.newarray .int, 2) := by decide +kernel
theorem dX9_init_17 : decode cX9_init 17 = .ok (.putfield 15, 3) := by decide +kernel
theorem dX9_init_20 : decode cX9_init 20 = .ok (.aload_n 0, 1) := by decide +kernel
theorem dX9_init_21 : decode cX9_init 21 = .ok (.iconst 0, 1) := by decide +kernel
theorem dX9_init_22 : decode cX9_init 22 = .ok (.putfield 18, 3) := by decide +kernel
theorem dX9_init_25 : decode cX9_init 25 = .ok (.return_, 1) := by decide +kernel
theorem dX9_comeAt_0 : decode cX9_comeAt 0 = .ok (.iload_n 1, 1) := by decide +kernel
theorem dX9_comeAt_1 : decode cX9_comeAt 1 = .ok (.ifCond .lt 21, 3) := by decide +kernel
theorem dX9_comeAt_4 : decode cX9_comeAt 4 = .ok (.iload_n 1, 1) := by decide +kernel
theorem dX9_comeAt_5 : decode cX9_comeAt 5 = .ok (.aload_n 0, 1) := by decide +kernel
theorem dX9_comeAt_6 : decode cX9_comeAt 6 = .ok (.getfield 9, 3) := by decide +kernel
theorem dX9_comeAt_9 : decode cX9_comeAt 9 = .ok (.arraylength, 1) := by decide +kernel
theorem dX9_comeAt_10 : decode cX9_comeAt 10 = .ok (.if_icmp .ge 12, 3) := by decide +kernel
theorem dX9_comeAt_13 : decode cX9_comeAt 13 = .ok (.aload_n 0, 1) := by decide +kernel
theorem dX9_comeAt_14 : decode cX9_comeAt 14 = .ok (.getfield 9, 3) := by decide +kernel
theorem dX9_comeAt_17 : decode cX9_comeAt 17 = .ok (.iload_n 1, 1) := by decide +kernel
theorem dX9_comeAt_18 : decode cX9_comeAt 18 = .ok (.iaload, 1) := by decide +kernel
theorem dX9_comeAt_19 : decode cX9_comeAt 19 = .ok (.goto 4, 3) := by decide +kernel
theorem dX9_comeAt_22 : decode cX9_comeAt 22 = .ok (.iconst 0, 1) := by decide +kernel
theorem dX9_comeAt_23 : decode cX9_comeAt 23 = .ok (.ireturn, 1) := by decide +kernel
theorem dX9_sinceAt_0 : decode cX9_sinceAt 0 = .ok (.iload_n 1, 1) := by decide +kernel
theorem dX9_sinceAt_1 : decode cX9_sinceAt 1 = .ok (.ifCond .lt 21, 3) := by decide +kernel
theorem dX9_sinceAt_4 : decode cX9_sinceAt 4 = .ok (.iload_n 1, 1) := by decide +kernel
theorem dX9_sinceAt_5 : decode cX9_sinceAt 5 = .ok (.aload_n 0, 1) := by decide +kernel
theorem dX9_sinceAt_6 : decode cX9_sinceAt 6 = .ok (.getfield 15, 3) := by decide +kernel
theorem dX9_sinceAt_9 : decode cX9_sinceAt 9 = .ok (.arraylength, 1) := by decide +kernel
theorem dX9_sinceAt_10 : decode cX9_sinceAt 10 = .ok (.if_icmp .ge 12, 3) := by decide +kernel
theorem dX9_sinceAt_13 : decode cX9_sinceAt 13 = .ok (.aload_n 0, 1) := by decide +kernel
theorem dX9_sinceAt_14 : decode cX9_sinceAt 14 = .ok (.getfield 15, 3) := by decide +kernel
theorem dX9_sinceAt_17 : decode cX9_sinceAt 17 = .ok (.iload_n 1, 1) := by decide +kernel
theorem dX9_sinceAt_18 : decode cX9_sinceAt 18 = .ok (.iaload, 1) := by decide +kernel
theorem dX9_sinceAt_19 : decode cX9_sinceAt 19 = .ok (.goto 4, 3) := by decide +kernel
theorem dX9_sinceAt_22 : decode cX9_sinceAt 22 = .ok (.iconst 0, 1) := by decide +kernel
theorem dX9_sinceAt_23 : decode cX9_sinceAt 23 = .ok (.ireturn, 1) := by decide +kernel
theorem ggX9_begin_X5_identity : GoodIn wsX9_begin wsX5_identity := gdC (gd1 m28_12)
theorem gX9_begin_X5_identity : GoodIn wsX9_begin (wsV RX9 22 RX5 yX5_identity wsX5_identity) := gdC (gd4 m28_9 m28_10 m28_11 m1_15 m28_12)
theorem dX9_begin_0 : decode cX9_begin 0 = .ok (.aload_n 0, 1) := by decide +kernel
theorem dX9_begin_1 : decode cX9_begin 1 = .ok (.aload_n 1, 1) := by decide +kernel
theorem dX9_begin_2 : decode cX9_begin 2 = .ok (.invokevirtual 22, 3) := by decide +kernel
theorem dX9_begin_5 : decode cX9_begin 5 = .ok (.putfield 18, 3) := by decide +kernel
theorem dX9_begin_8 : decode cX9_begin 8 = .ok (.aload_n 0, 1) := by decide +kernel
theorem dX9_begin_9 : decode cX9_begin 9 = .ok (.getfield 9, 3) := by decide +kernel
theorem dX9_begin_12 : decode cX9_begin 12 = .ok (.iconst 0, 1) := by decide +kernel
theorem dX9_begin_13 : decode cX9_begin 13 = .ok (.iconst 1, 1) := by decide +kernel
theorem dX9_begin_14 : decode cX9_begin 14 = .ok (.iastore, 1) := by decide +kernel
theorem dX9_begin_15 : decode cX9_begin 15 = .ok (.aload_n 0, 1) := by decide +kernel
theorem dX9_begin_16 : decode cX9_begin 16 = .ok (.getfield 15, 3) := by decide +kernel
theorem dX9_begin_19 : decode cX9_begin 19 = .ok (.iconst 0, 1) := by decide +kernel
theorem dX9_begin_20 : decode cX9_begin 20 = .ok (.aload_n 0, 1) := by decide +kernel
theorem dX9_begin_21 : decode cX9_begin 21 = .ok (.getfield 18, 3) := by decide +kernel
theorem dX9_begin_24 : decode cX9_begin 24 = .ok (.iastore, 1) := by decide +kernel
theorem dX9_begin_25 : decode cX9_begin 25 = .ok (.return_, 1) := by decide +kernel
theorem ggX9_follow_X9_begin : GoodIn wsX9_follow wsX9_begin := gdC (gd1 m28_8)
theorem gX9_follow_X9_begin : GoodIn wsX9_follow (wsV RX9 28 RX9 yX9_begin wsX9_begin) := gdC (gd4 m28_5 m28_6 m28_7 m2_4 m28_8)
theorem ggX9_follow_X9_step : GoodIn wsX9_follow wsX9_step := gdC (gd1 m28_16)
theorem gX9_follow_X9_step : GoodIn wsX9_follow (wsV RX9 32 RX9 yX9_step wsX9_step) := gdC (gd4 m28_13 m28_14 m28_15 m2_4 m28_16)
theorem dX9_follow_0 : decode cX9_follow 0 = .ok (.aload_n 0, 1) := by decide +kernel
theorem dX9_follow_1 : decode cX9_follow 1 = .ok (.aload_n 1, 1) := by decide +kernel
theorem dX9_follow_2 : decode cX9_follow 2 = .ok (.invokevirtual 28, 3) := by decide +kernel
theorem dX9_follow_5 : decode cX9_follow 5 = .ok (.iconst 0, 1) := by decide +kernel
theorem dX9_follow_6 : decode cX9_follow 6 = .ok (.istore 4, 2) := by decide +kernel
theorem dX9_follow_8 : decode cX9_follow 8 = .ok (.iload 4, 2) := by decide +kernel
theorem dX9_follow_10 : decode cX9_follow 10 = .ok (.iload_n 3, 1) := by decide +kernel
theorem dX9_follow_11 : decode cX9_follow 11 = .ok (.if_icmp .ge 17, 3) := by decide +kernel
theorem dX9_follow_14 : decode cX9_follow 14 = .ok (.aload_n 0, 1) := by decide +kernel
theorem dX9_follow_15 : decode cX9_follow 15 = .ok (.aload_n 1, 1) := by decide +kernel
theorem dX9_follow_16 : decode cX9_follow 16 = .ok (.aload_n 2, 1) := by decide +kernel
theorem dX9_follow_17 : decode cX9_follow 17 = .ok (.iload 4, 2) := by decide +kernel
theorem dX9_follow_19 : decode cX9_follow 19 = .ok (.invokevirtual 32, 3) := by decide +kernel
theorem dX9_follow_22 : decode cX9_follow 22 = .ok (.iinc 4 1, 3) := by decide +kernel
theorem dX9_follow_25 : decode cX9_follow 25 = .ok (.goto (-17), 3) := by decide +kernel
theorem dX9_follow_28 : decode cX9_follow 28 = .ok (.return_, 1) := by decide +kernel
theorem ggX9_step_X6_letterAt : GoodIn wsX9_step wsX6_letterAt := gdC (gd1 m23_21)
theorem gX9_step_X6_letterAt : GoodIn wsX9_step (wsV RX9 36 RX6 yX6_letterAt wsX6_letterAt) := gdC (gd4 m28_17 m23_19 m23_20 m2_0 m23_21)
theorem ggX9_step_X6_openAt : GoodIn wsX9_step wsX6_openAt := gdC (gd1 m23_13)
theorem gX9_step_X6_openAt : GoodIn wsX9_step (wsV RX9 42 RX6 yX6_openAt wsX6_openAt) := gdC (gd4 m28_18 m23_11 m23_12 m2_0 m23_13)
theorem ggX9_step_X5_isPlain : GoodIn wsX9_step wsX5_isPlain := gdC (gd1 m17_10)
theorem gX9_step_X5_isPlain : GoodIn wsX9_step (va_wsS RX9 45 yX5_isPlain wsX5_isPlain) := gdC (gd3 m28_19 m17_9 m1_15 m17_10)
theorem ggX9_step_X5_way : GoodIn wsX9_step wsX5_way := gdC (gd1 m22_0)
theorem gX9_step_X5_way : GoodIn wsX9_step (wsV RX9 49 RX5 yX5_way wsX5_way) := gdC (gd4 m28_20 m21_22 m21_23 m1_15 m22_0)
theorem ggX9_step_X9_goOn : GoodIn wsX9_step wsX9_goOn := gdC (gd1 m29_0)
theorem gX9_step_X9_goOn : GoodIn wsX9_step (wsV RX9 53 RX9 yX9_goOn wsX9_goOn) := gdC (gd4 m28_21 m28_22 m28_23 m2_4 m29_0)
theorem ggX9_step_X5_closes : GoodIn wsX9_step wsX5_closes := gdC (gd1 m14_6)
theorem gX9_step_X5_closes : GoodIn wsX9_step (va_wsS RX9 57 yX5_closes wsX5_closes) := gdC (gd3 m29_8 m14_5 m1_15 m14_6)
theorem ggX9_step_X5_wrapped : GoodIn wsX9_step wsX5_wrapped := gdC (gd1 m29_12)
theorem gX9_step_X5_wrapped : GoodIn wsX9_step (wsV RX9 60 RX5 yX5_wrapped wsX5_wrapped) := gdC (gd4 m29_9 m29_10 m29_11 m1_15 m29_12)
theorem ggX9_step_X5_alone : GoodIn wsX9_step wsX5_alone := gdC (gd1 m29_17)
theorem gX9_step_X5_alone : GoodIn wsX9_step (wsV RX9 64 RX5 yX5_alone wsX5_alone) := gdC (gd4 m29_14 m29_15 m29_16 m1_15 m29_17)
theorem ggX9_step_X5_image : GoodIn wsX9_step wsX5_image := gdC (gd1 m29_3)
theorem gX9_step_X5_image : GoodIn wsX9_step (va_wsS RX9 67 yX5_image wsX5_image) := gdC (gd3 m29_1 m29_2 m1_15 m29_3)
theorem dX9_step_0 : decode cX9_step 0 = .ok (.iload_n 3, 1) := by decide +kernel
theorem dX9_step_1 : decode cX9_step 1 = .ok (.ifCond .lt 9, 3) := by decide +kernel
theorem dX9_step_4 : decode cX9_step 4 = .ok (.iload_n 3, 1) := by decide +kernel
theorem dX9_step_5 : decode cX9_step 5 = .ok (.bipush 24, 2) := by decide +kernel
theorem dX9_step_7 : decode cX9_step 7 = .ok (.if_icmp .lt 4, 3) := by decide +kernel
theorem dX9_step_10 : decode cX9_step 10 = .ok (.return_, 1) := by decide +kernel
theorem dX9_step_11 : decode cX9_step 11 = .ok (.aload_n 2, 1) := by decide +kernel
theorem dX9_step_12 : decode cX9_step 12 = .ok (.iload_n 3, 1) := by decide +kernel
theorem dX9_step_13 : decode cX9_step 13 = .ok (.invokevirtual 36, 3) := by decide +kernel
theorem dX9_step_16 : decode cX9_step 16 = .ok (.istore 4, 2) := by decide +kernel
theorem dX9_step_18 : decode cX9_step 18 = .ok (.aload_n 2, 1) := by decide +kernel
theorem dX9_step_19 : decode cX9_step 19 = .ok (.iload_n 3, 1) := by decide +kernel
theorem dX9_step_20 : decode cX9_step 20 = .ok (.invokevirtual 42, 3) := by decide +kernel
theorem dX9_step_23 : decode cX9_step 23 = .ok (.istore 5, 2) := by decide +kernel
theorem dX9_step_25 : decode cX9_step 25 = .ok (.iload 4, 2) := by decide +kernel
theorem dX9_step_27 : decode cX9_step 27 = .ok (.invokestatic 45, 3) := by decide +kernel
theorem dX9_step_30 : decode cX9_step 30 = .ok (.ifCond .eq 21, 3) := by decide +kernel
theorem dX9_step_33 : decode cX9_step 33 = .ok (.aload_n 0, 1) := by decide +kernel
theorem dX9_step_34 : decode cX9_step 34 = .ok (.iload_n 3, 1) := by decide +kernel
theorem dX9_step_35 : decode cX9_step 35 = .ok (.aload_n 1, 1) := by decide +kernel
theorem dX9_step_36 : decode cX9_step 36 = .ok (.iload 4, 2) := by decide +kernel
theorem dX9_step_38 : decode cX9_step 38 = .ok (.iconst 0, 1) := by decide +kernel
theorem dX9_step_39 : decode cX9_step 39 = .ok (.invokevirtual 49, 3) := by decide +kernel
theorem dX9_step_42 : decode cX9_step 42 = .ok (.iload_n 3, 1) := by decide +kernel
theorem dX9_step_43 : decode cX9_step 43 = .ok (.iconst 1, 1) := by decide +kernel
theorem dX9_step_44 : decode cX9_step 44 = .ok (.iadd, 1) := by decide +kernel
theorem dX9_step_45 : decode cX9_step 45 = .ok (.invokevirtual 53, 3) := by decide +kernel
theorem dX9_step_48 : decode cX9_step 48 = .ok (.goto 87, 3) := by decide +kernel
theorem dX9_step_51 : decode cX9_step 51 = .ok (.iload 4, 2) := by decide +kernel
theorem dX9_step_53 : decode cX9_step 53 = .ok (.invokestatic 57, 3) := by decide +kernel
theorem dX9_step_56 : decode cX9_step 56 = .ok (.ifCond .eq 44, 3) := by decide +kernel
theorem dX9_step_59 : decode cX9_step 59 = .ok (.iload 5, 2) := by decide +kernel
theorem dX9_step_61 : decode cX9_step 61 = .ok (.ifCond .lt 39, 3) := by decide +kernel
theorem dX9_step_64 : decode cX9_step 64 = .ok (.iload 5, 2) := by decide +kernel
theorem dX9_step_66 : decode cX9_step 66 = .ok (.iload_n 3, 1) := by decide +kernel
theorem dX9_step_67 : decode cX9_step 67 = .ok (.if_icmp .ge 33, 3) := by decide +kernel
theorem dX9_step_70 : decode cX9_step 70 = .ok (.aload_n 0, 1) := by decide +kernel
theorem dX9_step_71 : decode cX9_step 71 = .ok (.iload 5, 2) := by decide +kernel
theorem dX9_step_73 : decode cX9_step 73 = .ok (.aload_n 1, 1) := by decide +kernel
theorem dX9_step_74 : decode cX9_step 74 = .ok (.aload_n 2, 1) := by decide +kernel
theorem dX9_step_75 : decode cX9_step 75 = .ok (.iload 5, 2) := by decide +kernel
theorem dX9_step_77 : decode cX9_step 77 = .ok (.invokevirtual 36, 3) := by decide +kernel
theorem dX9_step_80 : decode cX9_step 80 = .ok (.iload 4, 2) := by decide +kernel
theorem dX9_step_82 : decode cX9_step 82 = .ok (.aload_n 0, 1) := by decide +kernel
theorem dX9_step_83 : decode cX9_step 83 = .ok (.getfield 15, 3) := by decide +kernel
theorem dX9_step_86 : decode cX9_step 86 = .ok (.iload_n 3, 1) := by decide +kernel
theorem dX9_step_87 : decode cX9_step 87 = .ok (.iaload, 1) := by decide +kernel
theorem dX9_step_88 : decode cX9_step 88 = .ok (.invokevirtual 60, 3) := by decide +kernel
theorem dX9_step_91 : decode cX9_step 91 = .ok (.iload_n 3, 1) := by decide +kernel
theorem dX9_step_92 : decode cX9_step 92 = .ok (.iconst 1, 1) := by decide +kernel
theorem dX9_step_93 : decode cX9_step 93 = .ok (.iadd, 1) := by decide +kernel
theorem dX9_step_94 : decode cX9_step 94 = .ok (.invokevirtual 53, 3) := by decide +kernel
theorem dX9_step_97 : decode cX9_step 97 = .ok (.goto 38, 3) := by decide +kernel
theorem dX9_step_100 : decode cX9_step 100 = .ok (.aload_n 0, 1) := by decide +kernel
theorem dX9_step_101 : decode cX9_step 101 = .ok (.getfield 9, 3) := by decide +kernel
theorem dX9_step_104 : decode cX9_step 104 = .ok (.iload_n 3, 1) := by decide +kernel
theorem dX9_step_105 : decode cX9_step 105 = .ok (.iconst 1, 1) := by decide +kernel
theorem dX9_step_106 : decode cX9_step 106 = .ok (.iadd, 1) := by decide +kernel
theorem dX9_step_107 : decode cX9_step 107 = .ok (.aload_n 0, 1) := by decide +kernel
theorem dX9_step_108 : decode cX9_step 108 = .ok (.getfield 9, 3) := by decide +kernel
theorem dX9_step_111 : decode cX9_step 111 = .ok (.iload_n 3, 1) := by decide +kernel
theorem dX9_step_112 : decode cX9_step 112 = .ok (.iaload, 1) := by decide +kernel
theorem dX9_step_113 : decode cX9_step 113 = .ok (.aload_n 1, 1) := by decide +kernel
theorem dX9_step_114 : decode cX9_step 114 = .ok (.iload 4, 2) := by decide +kernel
theorem dX9_step_116 : decode cX9_step 116 = .ok (.invokevirtual 64, 3) := by decide +kernel
theorem dX9_step_119 : decode cX9_step 119 = .ok (.invokestatic 67, 3) := by decide +kernel
theorem dX9_step_122 : decode cX9_step 122 = .ok (.iastore, 1) := by decide +kernel
theorem dX9_step_123 : decode cX9_step 123 = .ok (.aload_n 0, 1) := by decide +kernel
theorem dX9_step_124 : decode cX9_step 124 = .ok (.getfield 15, 3) := by decide +kernel
theorem dX9_step_127 : decode cX9_step 127 = .ok (.iload_n 3, 1) := by decide +kernel
theorem dX9_step_128 : decode cX9_step 128 = .ok (.iconst 1, 1) := by decide +kernel
theorem dX9_step_129 : decode cX9_step 129 = .ok (.iadd, 1) := by decide +kernel
theorem dX9_step_130 : decode cX9_step 130 = .ok (.aload_n 0, 1) := by decide +kernel
theorem dX9_step_131 : decode cX9_step 131 = .ok (.getfield 18, 3) := by decide +kernel
theorem dX9_step_134 : decode cX9_step 134 = .ok (.iastore, 1) := by decide +kernel
theorem dX9_step_135 : decode cX9_step 135 = .ok (.return_, 1) := by decide +kernel
theorem ggX9_goOn_X5_image : GoodIn wsX9_goOn wsX5_image := gdC (gd1 m29_3)
theorem gX9_goOn_X5_image : GoodIn wsX9_goOn (va_wsS RX9 67 yX5_image wsX5_image) := gdC (gd3 m29_1 m29_2 m1_15 m29_3)
theorem ggX9_goOn_X5_then : GoodIn wsX9_goOn wsX5_then := gdC (gd1 m29_6)
theorem gX9_goOn_X5_then : GoodIn wsX9_goOn (va_wsS RX9 70 yX5_then wsX5_then) := gdC (gd3 m29_4 m29_5 m1_15 m29_6)
theorem dX9_goOn_0 : decode cX9_goOn 0 = .ok (.aload_n 0, 1) := by decide +kernel
theorem dX9_goOn_1 : decode cX9_goOn 1 = .ok (.getfield 9, 3) := by decide +kernel
theorem dX9_goOn_4 : decode cX9_goOn 4 = .ok (.iload_n 3, 1) := by decide +kernel
theorem dX9_goOn_5 : decode cX9_goOn 5 = .ok (.aload_n 0, 1) := by decide +kernel
theorem dX9_goOn_6 : decode cX9_goOn 6 = .ok (.getfield 9, 3) := by decide +kernel
theorem dX9_goOn_9 : decode cX9_goOn 9 = .ok (.iload_n 1, 1) := by decide +kernel
theorem dX9_goOn_10 : decode cX9_goOn 10 = .ok (.iaload, 1) := by decide +kernel
theorem dX9_goOn_11 : decode cX9_goOn 11 = .ok (.iload_n 2, 1) := by decide +kernel
theorem dX9_goOn_12 : decode cX9_goOn 12 = .ok (.invokestatic 67, 3) := by decide +kernel
theorem dX9_goOn_15 : decode cX9_goOn 15 = .ok (.iastore, 1) := by decide +kernel
theorem dX9_goOn_16 : decode cX9_goOn 16 = .ok (.aload_n 0, 1) := by decide +kernel
theorem dX9_goOn_17 : decode cX9_goOn 17 = .ok (.getfield 15, 3) := by decide +kernel
theorem dX9_goOn_20 : decode cX9_goOn 20 = .ok (.iload_n 3, 1) := by decide +kernel
theorem dX9_goOn_21 : decode cX9_goOn 21 = .ok (.aload_n 0, 1) := by decide +kernel
theorem dX9_goOn_22 : decode cX9_goOn 22 = .ok (.getfield 15, 3) := by decide +kernel
theorem dX9_goOn_25 : decode cX9_goOn 25 = .ok (.iload_n 1, 1) := by decide +kernel
theorem dX9_goOn_26 : decode cX9_goOn 26 = .ok (.iaload, 1) := by decide +kernel
theorem dX9_goOn_27 : decode cX9_goOn 27 = .ok (.iload_n 2, 1) := by decide +kernel
theorem dX9_goOn_28 : decode cX9_goOn 28 = .ok (.invokestatic 70, 3) := by decide +kernel
theorem dX9_goOn_31 : decode cX9_goOn 31 = .ok (.iastore, 1) := by decide +kernel
theorem dX9_goOn_32 : decode cX9_goOn 32 = .ok (.return_, 1) := by decide +kernel
def wX9_comeAt (p0 : Int32) (A_come : Nat → Int32) (K : Int32 → Prop) : Prop :=
  ((p0 < (0 : Int32) → K (0 : Int32)) ∧ (¬ p0 < (0 : Int32) → (((25 : Int32) ≤ p0 → K (0 : Int32)) ∧ (¬ (25 : Int32) ≤ p0 → (vp_in p0 25 ∧ K (A_come p0.toNatClampNeg))))))
abbrev rmX9_comeAt : Room := { frames := 0, cells := 0, slots := 0, locals := 0 }
theorem nd_X9_comeAt : yX9_comeAt.cls = RX9 ∧ yX9_comeAt.cls ≠ "java/lang/invoke/MethodHandle" ∧ yX9_comeAt.cls ≠ "java/lang/invoke/VarHandle" ∧ (parseMethodDescriptor yX9_comeAt.desc).map (fun d => d.parameters.length) = some 1 := by decide +kernel
theorem hkX9_comeAt_X9 : ∀ w ∈ u_ws RX9 TX9 3, w ∈ wsX9_comeAt := fun w h => List.mem_cons_of_mem _ (inlX9 w h)
theorem hfX9_comeAt_9 : (Cond.fieldLink RX9 9 "NestReaders$Walk" "come" "[I") ∈ wsX9_comeAt := List.mem_cons_of_mem _ m4_16
set_option maxHeartbeats 4000000 in
set_option maxRecDepth 100000 in
theorem c_X9_comeAt (l : Launch) (G : va_G) (cI cJ cZ : ClassId) (q_t q_t_come q_t_since : Nat) (F_same : Int32) (A_come : Nat → Int32) (p0 : Int32) {K : Int32 → Prop} (hw : wX9_comeAt p0 A_come K) : Met l yX9_comeAt wsX9_comeAt rmX9_comeAt (ms_P G (ms_T cI cJ cZ) [(q_t, .inr (9, [.ref q_t_come, .ref q_t_since, .int F_same])), (q_t_come, .inl (cI, 25, .inl A_come))] [.ref q_t, .int p0]) (ms_Qi K) 0 0 ms_N := by
  refine ms_si (cc := cX9_comeAt) (maxL := 2) (ty := .int) (by decide) rfl (Nat.le_of_ble_eq_true rfl) ?_
  intro p e s m args below meth c Q hx hb hml hown hts hK hP hD hRet ls hl
  have hl : lv_has ls 2 [(0, .ref q_t), (1, .int p0)] := hl
  have hown : s.vm.findClass RX9 = some m.cls := hown
  refine lv_iload_n hx hb dX9_comeAt_0 rfl (lv_at hl 1 rfl) ?_
  refine lv_if_lt (tgt := 22) hx hb dX9_comeAt_1 (by decide) (fun c1 => ?_) (fun c1 => ?_)
  · have hw := hw.1 c1
    refine lv_iconst (v := 0) hx hb dX9_comeAt_22 (by decide) ?_
    exact hRet (0 : Int32) _ _ hw (vp_nar_int _) dX9_comeAt_23
  · have hw := hw.2 c1
    refine lv_iload_n hx hb dX9_comeAt_4 rfl (lv_at hl 1 rfl) ?_
    refine lv_aload_n hx hb dX9_comeAt_5 rfl (lv_at hl 0 rfl) ?_
    refine va_get (D := G) (ci := 9) (v := .ref q_t_come) (C := RX9) (T := TX9) (N := 3) hx hb hts hkX9_comeAt_X9 hown hK hP 0 rfl rfl 0 (by decide) (hts (.fieldLink RX9 9 "NestReaders$Walk" "come" "[I") hfX9_comeAt_9) (fun _ h9 => h9) rfl dX9_comeAt_6 ?_
    refine va_alen (D := G) (v := (25 : Int32)) hx hb hK hP 1 0 rfl rfl rfl dX9_comeAt_9 ?_
    refine lv_icmp_ge (tgt := 22) hx hb dX9_comeAt_10 (by decide) (fun c2 => ?_) (fun c2 => ?_)
    · have hw := hw.1 c2
      refine lv_iconst (v := 0) hx hb dX9_comeAt_22 (by decide) ?_
      exact hRet (0 : Int32) _ _ hw (vp_nar_int _) dX9_comeAt_23
    · have hw := hw.2 c2
      refine lv_aload_n hx hb dX9_comeAt_13 rfl (lv_at hl 0 rfl) ?_
      refine va_get (D := G) (ci := 9) (v := .ref q_t_come) (C := RX9) (T := TX9) (N := 3) hx hb hts hkX9_comeAt_X9 hown hK hP 0 rfl rfl 0 (by decide) (hts (.fieldLink RX9 9 "NestReaders$Walk" "come" "[I") hfX9_comeAt_9) (fun _ h9 => h9) rfl dX9_comeAt_14 ?_
      refine lv_iload_n hx hb dX9_comeAt_17 rfl (lv_at hl 1 rfl) ?_
      refine va_iald (D := G) hx hb hK hP 1 0 rfl rfl hw.1 dX9_comeAt_18 ?_
      have hw := hw.2
      refine lv_goto (tgt := 23) hx hb dX9_comeAt_19 (by decide) ?_
      exact hRet (A_come p0.toNatClampNeg) _ _ hw (vp_nar_int _) dX9_comeAt_23
def wX9_sinceAt (p0 : Int32) (A_since : Nat → Int32) (K : Int32 → Prop) : Prop :=
  ((p0 < (0 : Int32) → K (0 : Int32)) ∧ (¬ p0 < (0 : Int32) → (((25 : Int32) ≤ p0 → K (0 : Int32)) ∧ (¬ (25 : Int32) ≤ p0 → (vp_in p0 25 ∧ K (A_since p0.toNatClampNeg))))))
abbrev rmX9_sinceAt : Room := { frames := 0, cells := 0, slots := 0, locals := 0 }
theorem nd_X9_sinceAt : yX9_sinceAt.cls = RX9 ∧ yX9_sinceAt.cls ≠ "java/lang/invoke/MethodHandle" ∧ yX9_sinceAt.cls ≠ "java/lang/invoke/VarHandle" ∧ (parseMethodDescriptor yX9_sinceAt.desc).map (fun d => d.parameters.length) = some 1 := by decide +kernel
theorem hkX9_sinceAt_X9 : ∀ w ∈ u_ws RX9 TX9 3, w ∈ wsX9_sinceAt := fun w h => List.mem_cons_of_mem _ (inlX9 w h)
theorem hfX9_sinceAt_15 : (Cond.fieldLink RX9 15 "NestReaders$Walk" "since" "[I") ∈ wsX9_sinceAt := List.mem_cons_of_mem _ m4_17
set_option maxHeartbeats 4000000 in
set_option maxRecDepth 100000 in
theorem c_X9_sinceAt (l : Launch) (G : va_G) (cI cJ cZ : ClassId) (q_t q_t_come q_t_since : Nat) (F_same : Int32) (A_since : Nat → Int32) (p0 : Int32) {K : Int32 → Prop} (hw : wX9_sinceAt p0 A_since K) : Met l yX9_sinceAt wsX9_sinceAt rmX9_sinceAt (ms_P G (ms_T cI cJ cZ) [(q_t, .inr (9, [.ref q_t_come, .ref q_t_since, .int F_same])), (q_t_since, .inl (cI, 25, .inl A_since))] [.ref q_t, .int p0]) (ms_Qi K) 0 0 ms_N := by
  refine ms_si (cc := cX9_sinceAt) (maxL := 2) (ty := .int) (by decide) rfl (Nat.le_of_ble_eq_true rfl) ?_
  intro p e s m args below meth c Q hx hb hml hown hts hK hP hD hRet ls hl
  have hl : lv_has ls 2 [(0, .ref q_t), (1, .int p0)] := hl
  have hown : s.vm.findClass RX9 = some m.cls := hown
  refine lv_iload_n hx hb dX9_sinceAt_0 rfl (lv_at hl 1 rfl) ?_
  refine lv_if_lt (tgt := 22) hx hb dX9_sinceAt_1 (by decide) (fun c1 => ?_) (fun c1 => ?_)
  · have hw := hw.1 c1
    refine lv_iconst (v := 0) hx hb dX9_sinceAt_22 (by decide) ?_
    exact hRet (0 : Int32) _ _ hw (vp_nar_int _) dX9_sinceAt_23
  · have hw := hw.2 c1
    refine lv_iload_n hx hb dX9_sinceAt_4 rfl (lv_at hl 1 rfl) ?_
    refine lv_aload_n hx hb dX9_sinceAt_5 rfl (lv_at hl 0 rfl) ?_
    refine va_get (D := G) (ci := 9) (v := .ref q_t_since) (C := RX9) (T := TX9) (N := 3) hx hb hts hkX9_sinceAt_X9 hown hK hP 0 rfl rfl 1 (by decide) (hts (.fieldLink RX9 15 "NestReaders$Walk" "since" "[I") hfX9_sinceAt_15) (fun _ h9 => h9) rfl dX9_sinceAt_6 ?_
    refine va_alen (D := G) (v := (25 : Int32)) hx hb hK hP 1 0 rfl rfl rfl dX9_sinceAt_9 ?_
    refine lv_icmp_ge (tgt := 22) hx hb dX9_sinceAt_10 (by decide) (fun c2 => ?_) (fun c2 => ?_)
    · have hw := hw.1 c2
      refine lv_iconst (v := 0) hx hb dX9_sinceAt_22 (by decide) ?_
      exact hRet (0 : Int32) _ _ hw (vp_nar_int _) dX9_sinceAt_23
    · have hw := hw.2 c2
      refine lv_aload_n hx hb dX9_sinceAt_13 rfl (lv_at hl 0 rfl) ?_
      refine va_get (D := G) (ci := 9) (v := .ref q_t_since) (C := RX9) (T := TX9) (N := 3) hx hb hts hkX9_sinceAt_X9 hown hK hP 0 rfl rfl 1 (by decide) (hts (.fieldLink RX9 15 "NestReaders$Walk" "since" "[I") hfX9_sinceAt_15) (fun _ h9 => h9) rfl dX9_sinceAt_14 ?_
      refine lv_iload_n hx hb dX9_sinceAt_17 rfl (lv_at hl 1 rfl) ?_
      refine va_iald (D := G) hx hb hK hP 1 0 rfl rfl hw.1 dX9_sinceAt_18 ?_
      have hw := hw.2
      refine lv_goto (tgt := 23) hx hb dX9_sinceAt_19 (by decide) ?_
      exact hRet (A_since p0.toNatClampNeg) _ _ hw (vp_nar_int _) dX9_sinceAt_23
def wX9_begin (F_same : Int32) (A_come : Nat → Int32) (A_since : Nat → Int32) (F_p0_states : Int32) (K : Int32 → (Nat → Int32) → (Nat → Int32) → Prop) : Prop :=
  (wX5_identity F_p0_states (fun r1 => (vp_in (0 : Int32) 25 ∧ (∀ g2 : Nat → Int32, g2 = upd A_come (0 : Int32).toNatClampNeg (1 : Int32) → (vp_in (0 : Int32) 25 ∧ (∀ g3 : Nat → Int32, g3 = upd A_since (0 : Int32).toNatClampNeg r1 → K r1 g2 g3))))))
abbrev rmX9_begin : Room := { frames := 2, cells := 0, slots := 0, locals := 43 }
theorem nd_X9_begin : yX9_begin.cls = RX9 ∧ yX9_begin.cls ≠ "java/lang/invoke/MethodHandle" ∧ yX9_begin.cls ≠ "java/lang/invoke/VarHandle" ∧ (parseMethodDescriptor yX9_begin.desc).map (fun d => d.parameters.length) = some 1 := by decide +kernel
theorem hkX9_begin_X9 : ∀ w ∈ u_ws RX9 TX9 3, w ∈ wsX9_begin := fun w h => List.mem_cons_of_mem _ (inlX9 w h)
theorem hfX9_begin_18 : (Cond.fieldLink RX9 18 "NestReaders$Walk" "same" "I") ∈ wsX9_begin := List.mem_cons_of_mem _ m4_18
theorem hfX9_begin_9 : (Cond.fieldLink RX9 9 "NestReaders$Walk" "come" "[I") ∈ wsX9_begin := List.mem_cons_of_mem _ m4_16
theorem hfX9_begin_15 : (Cond.fieldLink RX9 15 "NestReaders$Walk" "since" "[I") ∈ wsX9_begin := List.mem_cons_of_mem _ m4_17
set_option maxHeartbeats 4000000 in
set_option maxRecDepth 100000 in
theorem c_X9_begin (l : Launch) (G : va_G) (cI cJ cZ : ClassId) (q_t q_t_come q_t_since q_p0 q_p0_ways : Nat) (sz : Nat) (F_same : Int32) (A_come : Nat → Int32) (A_since : Nat → Int32) (F_p0_states : Int32) (F_p0_marks : Int32) (F_p0_takes : Int32) (F_p0_changes : Int32) {K : Int32 → (Nat → Int32) → (Nat → Int32) → Prop} (hw : wX9_begin F_same A_come A_since F_p0_states K) : Met l yX9_begin wsX9_begin rmX9_begin (ms_Pz G (ms_T cI cJ cZ) [(q_t, .inr (9, [.ref q_t_come, .ref q_t_since, .int F_same])), (q_t_come, .inl (cI, 25, .inl A_come)), (q_t_since, .inl (cI, 25, .inl A_since)), (q_p0, .inr (5, [.ref q_p0_ways, .int F_p0_states, .int F_p0_marks, .int F_p0_takes, .int F_p0_changes]))] sz [.ref q_t, .ref q_p0]) (ms_Wv G (ms_T cI cJ cZ) (fun (u : Int32 × (Nat → Int32) × (Nat → Int32)) => K u.1 u.2.1 u.2.2) (fun u : Int32 × (Nat → Int32) × (Nat → Int32) => [(q_t, .inr (9, [.ref q_t_come, .ref q_t_since, .int u.1])), (q_t_come, .inl (cI, 25, .inl u.2.1)), (q_t_since, .inl (cI, 25, .inl u.2.2)), (q_p0, .inr (5, [.ref q_p0_ways, .int F_p0_states, .int F_p0_marks, .int F_p0_takes, .int F_p0_changes]))]) (va_A [(q_t, .inr (9, [.ref q_t_come, .ref q_t_since, .int F_same])), (q_t_come, .inl (cI, 25, .inl A_come)), (q_t_since, .inl (cI, 25, .inl A_since)), (q_p0, .inr (5, [.ref q_p0_ways, .int F_p0_states, .int F_p0_marks, .int F_p0_takes, .int F_p0_changes]))] sz)) 0 0 (va_A [(q_t, .inr (9, [.ref q_t_come, .ref q_t_since, .int F_same])), (q_t_come, .inl (cI, 25, .inl A_come)), (q_t_since, .inl (cI, 25, .inl A_since)), (q_p0, .inr (5, [.ref q_p0_ways, .int F_p0_states, .int F_p0_marks, .int F_p0_takes, .int F_p0_changes]))] sz) := by
  refine ms_tv (cc := cX9_begin) (maxL := 2) (by decide) rfl (Nat.le_of_ble_eq_true rfl) ?_
  intro p e s m args below meth c Q A hx hb hml hown hts hK hP hD hS hA hRet ls hl
  have hl : lv_has ls 2 [(0, .ref q_t), (1, .ref q_p0)] := hl
  have hown : s.vm.findClass RX9 = some m.cls := hown
  refine lv_aload_n hx hb dX9_begin_0 rfl (lv_at hl 0 rfl) ?_
  refine lv_aload_n hx hb dX9_begin_1 rfl (lv_at hl 1 rfl) ?_
  refine ms_cVi ⟨hx, hb, hml, hown, hts⟩ hK hP hD (c_X5_identity l G cI cJ cZ q_p0 q_p0_ways F_p0_states F_p0_marks F_p0_takes F_p0_changes hw) gX9_begin_X5_identity rfl nd_X5_identity (ci := 5) rfl rfl rfl ⟨rfl, rfl⟩ rfl ⟨Nat.le_of_ble_eq_true rfl, Nat.le_of_ble_eq_true rfl⟩ hl.1 (rest := [.ref q_t]) rfl (Nat.le_of_ble_eq_true rfl)  [3] rfl rfl dX9_begin_2 (fun r1 hw => ?_)
  refine va_put (D := G) (ci := 9) (v := .int r1) (ty := .int) (C := RX9) (T := TX9) (N := 3) hx hb hts hkX9_begin_X9 tyX9 tyX9_ok nmX9 hown hK hP hD hS 0 rfl rfl 2 (by decide) (hts (.fieldLink RX9 18 "NestReaders$Walk" "same" "I") hfX9_begin_18) (fun _ h9 => h9) rfl (by decide +kernel) rfl rfl (Nat.le_of_ble_eq_true rfl) dX9_begin_5 (fun H locs hP hD hS => ?_)
  have hP : va_P G vwCl [(q_t, .inr (9, [.ref q_t_come, .ref q_t_since, .int r1])), (q_t_come, .inl (cI, 25, .inl A_come)), (q_t_since, .inl (cI, 25, .inl A_since)), (q_p0, .inr (5, [.ref q_p0_ways, .int F_p0_states, .int F_p0_marks, .int F_p0_takes, .int F_p0_changes]))] H := hP
  have hD : va_D A [(q_t, .inr (9, [.ref q_t_come, .ref q_t_since, .int r1])), (q_t_come, .inl (cI, 25, .inl A_come)), (q_t_since, .inl (cI, 25, .inl A_since)), (q_p0, .inr (5, [.ref q_p0_ways, .int F_p0_states, .int F_p0_marks, .int F_p0_takes, .int F_p0_changes]))] := hD
  refine lv_aload_n hx hb dX9_begin_8 rfl (lv_at hl 0 rfl) ?_
  refine va_get (D := G) (ci := 9) (v := .ref q_t_come) (C := RX9) (T := TX9) (N := 3) hx hb hts hkX9_begin_X9 hown hK hP 0 rfl rfl 0 (by decide) (hts (.fieldLink RX9 9 "NestReaders$Walk" "come" "[I") hfX9_begin_9) (fun _ h9 => h9) rfl dX9_begin_9 ?_
  refine lv_iconst (v := 0) hx hb dX9_begin_12 (by decide) ?_
  refine lv_iconst (v := 1) hx hb dX9_begin_13 (by decide) ?_
  refine ms_iast hx hb hK hP hD hS 1 0 rfl rfl hw.1 dX9_begin_14 (fun g2 H locs eg2 hP hD hS => ?_)
  have hw := hw.2 g2 eg2
  have hP : va_P G vwCl [(q_t, .inr (9, [.ref q_t_come, .ref q_t_since, .int r1])), (q_t_come, .inl (cI, 25, .inl g2)), (q_t_since, .inl (cI, 25, .inl A_since)), (q_p0, .inr (5, [.ref q_p0_ways, .int F_p0_states, .int F_p0_marks, .int F_p0_takes, .int F_p0_changes]))] H := hP
  have hD : va_D A [(q_t, .inr (9, [.ref q_t_come, .ref q_t_since, .int r1])), (q_t_come, .inl (cI, 25, .inl g2)), (q_t_since, .inl (cI, 25, .inl A_since)), (q_p0, .inr (5, [.ref q_p0_ways, .int F_p0_states, .int F_p0_marks, .int F_p0_takes, .int F_p0_changes]))] := hD
  refine lv_aload_n hx hb dX9_begin_15 rfl (lv_at hl 0 rfl) ?_
  refine va_get (D := G) (ci := 9) (v := .ref q_t_since) (C := RX9) (T := TX9) (N := 3) hx hb hts hkX9_begin_X9 hown hK hP 0 rfl rfl 1 (by decide) (hts (.fieldLink RX9 15 "NestReaders$Walk" "since" "[I") hfX9_begin_15) (fun _ h9 => h9) rfl dX9_begin_16 ?_
  refine lv_iconst (v := 0) hx hb dX9_begin_19 (by decide) ?_
  refine lv_aload_n hx hb dX9_begin_20 rfl (lv_at hl 0 rfl) ?_
  refine va_get (D := G) (ci := 9) (v := .int r1) (C := RX9) (T := TX9) (N := 3) hx hb hts hkX9_begin_X9 hown hK hP 0 rfl rfl 2 (by decide) (hts (.fieldLink RX9 18 "NestReaders$Walk" "same" "I") hfX9_begin_18) (fun _ h9 => h9) rfl dX9_begin_21 ?_
  refine ms_iast hx hb hK hP hD hS 2 0 rfl rfl hw.1 dX9_begin_24 (fun g3 H locs eg3 hP hD hS => ?_)
  have hw := hw.2 g3 eg3
  have hP : va_P G vwCl [(q_t, .inr (9, [.ref q_t_come, .ref q_t_since, .int r1])), (q_t_come, .inl (cI, 25, .inl g2)), (q_t_since, .inl (cI, 25, .inl g3)), (q_p0, .inr (5, [.ref q_p0_ways, .int F_p0_states, .int F_p0_marks, .int F_p0_takes, .int F_p0_changes]))] H := hP
  have hD : va_D A [(q_t, .inr (9, [.ref q_t_come, .ref q_t_since, .int r1])), (q_t_come, .inl (cI, 25, .inl g2)), (q_t_since, .inl (cI, 25, .inl g3)), (q_p0, .inr (5, [.ref q_p0_ways, .int F_p0_states, .int F_p0_marks, .int F_p0_takes, .int F_p0_changes]))] := hD
  exact hRet ⟨r1, g2, g3⟩ H locs _ _ hw hP hD hS dX9_begin_25
def wX9_goOn (p0 : Int32) (p1 : Int32) (p2 : Int32) (A_come : Nat → Int32) (A_since : Nat → Int32) (K : (Nat → Int32) → (Nat → Int32) → Prop) : Prop :=
  (vp_in p0 25 ∧ (wX5_image (A_come p0.toNatClampNeg) p1 (fun r1 => (vp_in p2 25 ∧ (∀ g2 : Nat → Int32, g2 = upd A_come p2.toNatClampNeg r1 → (vp_in p0 25 ∧ (wX5_then (A_since p0.toNatClampNeg) p1 (fun r3 => (vp_in p2 25 ∧ (∀ g4 : Nat → Int32, g4 = upd A_since p2.toNatClampNeg r3 → K g2 g4))))))))))
abbrev rmX9_goOn : Room := { frames := 2, cells := 0, slots := 0, locals := 43 }
theorem nd_X9_goOn : yX9_goOn.cls = RX9 ∧ yX9_goOn.cls ≠ "java/lang/invoke/MethodHandle" ∧ yX9_goOn.cls ≠ "java/lang/invoke/VarHandle" ∧ (parseMethodDescriptor yX9_goOn.desc).map (fun d => d.parameters.length) = some 3 := by decide +kernel
theorem hkX9_goOn_X9 : ∀ w ∈ u_ws RX9 TX9 3, w ∈ wsX9_goOn := fun w h => List.mem_cons_of_mem _ (inlX9 w h)
theorem hfX9_goOn_9 : (Cond.fieldLink RX9 9 "NestReaders$Walk" "come" "[I") ∈ wsX9_goOn := List.mem_cons_of_mem _ m4_16
theorem hfX9_goOn_15 : (Cond.fieldLink RX9 15 "NestReaders$Walk" "since" "[I") ∈ wsX9_goOn := List.mem_cons_of_mem _ m4_17
set_option maxHeartbeats 4000000 in
set_option maxRecDepth 100000 in
theorem c_X9_goOn (l : Launch) (G : va_G) (cI cJ cZ : ClassId) (q_t q_t_come q_t_since : Nat) (sz : Nat) (F_same : Int32) (A_come : Nat → Int32) (A_since : Nat → Int32) (p0 : Int32) (p1 : Int32) (p2 : Int32) {K : (Nat → Int32) → (Nat → Int32) → Prop} (hw : wX9_goOn p0 p1 p2 A_come A_since K) : Met l yX9_goOn wsX9_goOn rmX9_goOn (ms_Pz G (ms_T cI cJ cZ) [(q_t, .inr (9, [.ref q_t_come, .ref q_t_since, .int F_same])), (q_t_come, .inl (cI, 25, .inl A_come)), (q_t_since, .inl (cI, 25, .inl A_since))] sz [.ref q_t, .int p0, .int p1, .int p2]) (ms_Wv G (ms_T cI cJ cZ) (fun (u : (Nat → Int32) × (Nat → Int32)) => K u.1 u.2) (fun u : (Nat → Int32) × (Nat → Int32) => [(q_t, .inr (9, [.ref q_t_come, .ref q_t_since, .int F_same])), (q_t_come, .inl (cI, 25, .inl u.1)), (q_t_since, .inl (cI, 25, .inl u.2))]) (va_A [(q_t, .inr (9, [.ref q_t_come, .ref q_t_since, .int F_same])), (q_t_come, .inl (cI, 25, .inl A_come)), (q_t_since, .inl (cI, 25, .inl A_since))] sz)) 0 0 (va_A [(q_t, .inr (9, [.ref q_t_come, .ref q_t_since, .int F_same])), (q_t_come, .inl (cI, 25, .inl A_come)), (q_t_since, .inl (cI, 25, .inl A_since))] sz) := by
  refine ms_tv (cc := cX9_goOn) (maxL := 4) (by decide) rfl (Nat.le_of_ble_eq_true rfl) ?_
  intro p e s m args below meth c Q A hx hb hml hown hts hK hP hD hS hA hRet ls hl
  have hl : lv_has ls 4 [(0, .ref q_t), (1, .int p0), (2, .int p1), (3, .int p2)] := hl
  have hown : s.vm.findClass RX9 = some m.cls := hown
  refine lv_aload_n hx hb dX9_goOn_0 rfl (lv_at hl 0 rfl) ?_
  refine va_get (D := G) (ci := 9) (v := .ref q_t_come) (C := RX9) (T := TX9) (N := 3) hx hb hts hkX9_goOn_X9 hown hK hP 0 rfl rfl 0 (by decide) (hts (.fieldLink RX9 9 "NestReaders$Walk" "come" "[I") hfX9_goOn_9) (fun _ h9 => h9) rfl dX9_goOn_1 ?_
  refine lv_iload_n hx hb dX9_goOn_4 rfl (lv_at hl 3 rfl) ?_
  refine lv_aload_n hx hb dX9_goOn_5 rfl (lv_at hl 0 rfl) ?_
  refine va_get (D := G) (ci := 9) (v := .ref q_t_come) (C := RX9) (T := TX9) (N := 3) hx hb hts hkX9_goOn_X9 hown hK hP 0 rfl rfl 0 (by decide) (hts (.fieldLink RX9 9 "NestReaders$Walk" "come" "[I") hfX9_goOn_9) (fun _ h9 => h9) rfl dX9_goOn_6 ?_
  refine lv_iload_n hx hb dX9_goOn_9 rfl (lv_at hl 1 rfl) ?_
  refine va_iald (D := G) hx hb hK hP 1 0 rfl rfl hw.1 dX9_goOn_10 ?_
  have hw := hw.2
  refine lv_iload_n hx hb dX9_goOn_11 rfl (lv_at hl 2 rfl) ?_
  refine ms_cSi ⟨hx, hb, hml, hown, hts⟩ hK hP hD (c_X5_image l G cI cJ cZ (A_come p0.toNatClampNeg) p1 hw) gX9_goOn_X5_image rfl nd_X5_image ⟨rfl, rfl⟩ rfl ⟨Nat.le_of_ble_eq_true rfl, Nat.le_of_ble_eq_true rfl⟩ hl.1 (rest := [.int p2, .ref q_t_come]) rfl (Nat.le_of_ble_eq_true rfl)  [] rfl rfl dX9_goOn_12 (fun r1 hw => ?_)
  refine ms_iast hx hb hK hP hD hS 1 0 rfl rfl hw.1 dX9_goOn_15 (fun g2 H locs eg2 hP hD hS => ?_)
  have hw := hw.2 g2 eg2
  have hP : va_P G vwCl [(q_t, .inr (9, [.ref q_t_come, .ref q_t_since, .int F_same])), (q_t_come, .inl (cI, 25, .inl g2)), (q_t_since, .inl (cI, 25, .inl A_since))] H := hP
  have hD : va_D A [(q_t, .inr (9, [.ref q_t_come, .ref q_t_since, .int F_same])), (q_t_come, .inl (cI, 25, .inl g2)), (q_t_since, .inl (cI, 25, .inl A_since))] := hD
  refine lv_aload_n hx hb dX9_goOn_16 rfl (lv_at hl 0 rfl) ?_
  refine va_get (D := G) (ci := 9) (v := .ref q_t_since) (C := RX9) (T := TX9) (N := 3) hx hb hts hkX9_goOn_X9 hown hK hP 0 rfl rfl 1 (by decide) (hts (.fieldLink RX9 15 "NestReaders$Walk" "since" "[I") hfX9_goOn_15) (fun _ h9 => h9) rfl dX9_goOn_17 ?_
  refine lv_iload_n hx hb dX9_goOn_20 rfl (lv_at hl 3 rfl) ?_
  refine lv_aload_n hx hb dX9_goOn_21 rfl (lv_at hl 0 rfl) ?_
  refine va_get (D := G) (ci := 9) (v := .ref q_t_since) (C := RX9) (T := TX9) (N := 3) hx hb hts hkX9_goOn_X9 hown hK hP 0 rfl rfl 1 (by decide) (hts (.fieldLink RX9 15 "NestReaders$Walk" "since" "[I") hfX9_goOn_15) (fun _ h9 => h9) rfl dX9_goOn_22 ?_
  refine lv_iload_n hx hb dX9_goOn_25 rfl (lv_at hl 1 rfl) ?_
  refine va_iald (D := G) hx hb hK hP 2 0 rfl rfl hw.1 dX9_goOn_26 ?_
  have hw := hw.2
  refine lv_iload_n hx hb dX9_goOn_27 rfl (lv_at hl 2 rfl) ?_
  refine ms_cSi ⟨hx, hb, hml, hown, hts⟩ hK hP hD (c_X5_then l G cI cJ cZ (A_since p0.toNatClampNeg) p1 hw) gX9_goOn_X5_then rfl nd_X5_then ⟨rfl, rfl⟩ rfl ⟨Nat.le_of_ble_eq_true rfl, Nat.le_of_ble_eq_true rfl⟩ hl.1 (rest := [.int p2, .ref q_t_since]) rfl (Nat.le_of_ble_eq_true rfl)  [] rfl rfl dX9_goOn_28 (fun r3 hw => ?_)
  refine ms_iast hx hb hK hP hD hS 2 0 rfl rfl hw.1 dX9_goOn_31 (fun g4 H locs eg4 hP hD hS => ?_)
  have hw := hw.2 g4 eg4
  have hP : va_P G vwCl [(q_t, .inr (9, [.ref q_t_come, .ref q_t_since, .int F_same])), (q_t_come, .inl (cI, 25, .inl g2)), (q_t_since, .inl (cI, 25, .inl g4))] H := hP
  have hD : va_D A [(q_t, .inr (9, [.ref q_t_come, .ref q_t_since, .int F_same])), (q_t_come, .inl (cI, 25, .inl g2)), (q_t_since, .inl (cI, 25, .inl g4))] := hD
  exact hRet ⟨g2, g4⟩ H locs _ _ hw hP hD hS dX9_goOn_32
def wX9_step (p2 : Int32) (F_same : Int32) (A_come : Nat → Int32) (A_since : Nat → Int32) (F_p0_marks : Int32) (A_p0_ways : Nat → Int32) (F_p1_size : Int32) (A_p1_letters : Nat → Int32) (A_p1_base : Nat → Int32) (K : (Nat → Int32) → (Nat → Int32) → Prop) : Prop :=
  ((p2 < (0 : Int32) → K A_come A_since) ∧ (¬ p2 < (0 : Int32) → ((p2 < (24 : Int32) → (wX6_letterAt p2 F_p1_size A_p1_letters (fun r3 => (wX6_openAt p2 F_p1_size A_p1_letters A_p1_base (fun r4 => (wX5_isPlain r3 (fun r5 => ((r5 = (0 : Int32) → (wX5_closes r3 (fun r7 => ((r7 = (0 : Int32) → (vp_in p2 25 ∧ (wX5_alone r3 A_p0_ways (fun r9 => (wX5_image (A_come p2.toNatClampNeg) r9 (fun r10 => (vp_in (p2 + (1 : Int32)) 25 ∧ (∀ g11 : Nat → Int32, g11 = upd A_come (p2 + (1 : Int32)).toNatClampNeg r10 → (vp_in (p2 + (1 : Int32)) 25 ∧ (∀ g12 : Nat → Int32, g12 = upd A_since (p2 + (1 : Int32)).toNatClampNeg F_same → K g11 g12)))))))))) ∧ (¬ r7 = (0 : Int32) → ((r4 < (0 : Int32) → (vp_in p2 25 ∧ (wX5_alone r3 A_p0_ways (fun r14 => (wX5_image (A_come p2.toNatClampNeg) r14 (fun r15 => (vp_in (p2 + (1 : Int32)) 25 ∧ (∀ g16 : Nat → Int32, g16 = upd A_come (p2 + (1 : Int32)).toNatClampNeg r15 → (vp_in (p2 + (1 : Int32)) 25 ∧ (∀ g17 : Nat → Int32, g17 = upd A_since (p2 + (1 : Int32)).toNatClampNeg F_same → K g16 g17)))))))))) ∧ (¬ r4 < (0 : Int32) → ((p2 ≤ r4 → (vp_in p2 25 ∧ (wX5_alone r3 A_p0_ways (fun r19 => (wX5_image (A_come p2.toNatClampNeg) r19 (fun r20 => (vp_in (p2 + (1 : Int32)) 25 ∧ (∀ g21 : Nat → Int32, g21 = upd A_come (p2 + (1 : Int32)).toNatClampNeg r20 → (vp_in (p2 + (1 : Int32)) 25 ∧ (∀ g22 : Nat → Int32, g22 = upd A_since (p2 + (1 : Int32)).toNatClampNeg F_same → K g21 g22)))))))))) ∧ (¬ p2 ≤ r4 → (wX6_letterAt r4 F_p1_size A_p1_letters (fun r23 => (vp_in p2 25 ∧ (wX5_wrapped r23 r3 (A_since p2.toNatClampNeg) F_p0_marks A_p0_ways (fun r24 => (wX9_goOn r4 r24 (p2 + (1 : Int32)) A_come A_since (fun u25 u26 => K u25 u26)))))))))))))))) ∧ (¬ r5 = (0 : Int32) → (wX5_way r3 (0 : Int32) A_p0_ways (fun r27 => (wX9_goOn p2 r27 (p2 + (1 : Int32)) A_come A_since (fun u28 u29 => K u28 u29))))))))))))) ∧ (¬ p2 < (24 : Int32) → K A_come A_since))))
abbrev rmX9_step : Room := { frames := 3, cells := 0, slots := 0, locals := 68 }
theorem nd_X9_step : yX9_step.cls = RX9 ∧ yX9_step.cls ≠ "java/lang/invoke/MethodHandle" ∧ yX9_step.cls ≠ "java/lang/invoke/VarHandle" ∧ (parseMethodDescriptor yX9_step.desc).map (fun d => d.parameters.length) = some 3 := by decide +kernel
theorem hkX9_step_X9 : ∀ w ∈ u_ws RX9 TX9 3, w ∈ wsX9_step := fun w h => List.mem_cons_of_mem _ (inlX9 w h)
theorem hfX9_step_9 : (Cond.fieldLink RX9 9 "NestReaders$Walk" "come" "[I") ∈ wsX9_step := List.mem_cons_of_mem _ m4_16
theorem hfX9_step_15 : (Cond.fieldLink RX9 15 "NestReaders$Walk" "since" "[I") ∈ wsX9_step := List.mem_cons_of_mem _ m4_17
theorem hfX9_step_18 : (Cond.fieldLink RX9 18 "NestReaders$Walk" "same" "I") ∈ wsX9_step := List.mem_cons_of_mem _ m4_18
set_option maxHeartbeats 4000000 in
set_option maxRecDepth 100000 in
theorem c_X9_step (l : Launch) (G : va_G) (cI cJ cZ : ClassId) (q_t q_t_come q_t_since q_p0 q_p0_ways q_p1 q_p1_letters q_p1_base : Nat) (sz : Nat) (F_same : Int32) (A_come : Nat → Int32) (A_since : Nat → Int32) (F_p0_states : Int32) (F_p0_marks : Int32) (F_p0_takes : Int32) (F_p0_changes : Int32) (A_p0_ways : Nat → Int32) (F_p1_size : Int32) (A_p1_letters : Nat → Int32) (A_p1_base : Nat → Int32) (p2 : Int32) {K : (Nat → Int32) → (Nat → Int32) → Prop} (hw : wX9_step p2 F_same A_come A_since F_p0_marks A_p0_ways F_p1_size A_p1_letters A_p1_base K) : Met l yX9_step wsX9_step rmX9_step (ms_Pz G (ms_T cI cJ cZ) [(q_t, .inr (9, [.ref q_t_come, .ref q_t_since, .int F_same])), (q_t_come, .inl (cI, 25, .inl A_come)), (q_t_since, .inl (cI, 25, .inl A_since)), (q_p0, .inr (5, [.ref q_p0_ways, .int F_p0_states, .int F_p0_marks, .int F_p0_takes, .int F_p0_changes])), (q_p0_ways, .inl (cI, 18, .inl A_p0_ways)), (q_p1, .inr (6, [.ref q_p1_letters, .ref q_p1_base, .int F_p1_size])), (q_p1_letters, .inl (cI, 24, .inl A_p1_letters)), (q_p1_base, .inl (cI, 25, .inl A_p1_base))] sz [.ref q_t, .ref q_p0, .ref q_p1, .int p2]) (ms_Wv G (ms_T cI cJ cZ) (fun (u : (Nat → Int32) × (Nat → Int32)) => K u.1 u.2) (fun u : (Nat → Int32) × (Nat → Int32) => [(q_t, .inr (9, [.ref q_t_come, .ref q_t_since, .int F_same])), (q_t_come, .inl (cI, 25, .inl u.1)), (q_t_since, .inl (cI, 25, .inl u.2)), (q_p0, .inr (5, [.ref q_p0_ways, .int F_p0_states, .int F_p0_marks, .int F_p0_takes, .int F_p0_changes])), (q_p0_ways, .inl (cI, 18, .inl A_p0_ways)), (q_p1, .inr (6, [.ref q_p1_letters, .ref q_p1_base, .int F_p1_size])), (q_p1_letters, .inl (cI, 24, .inl A_p1_letters)), (q_p1_base, .inl (cI, 25, .inl A_p1_base))]) (va_A [(q_t, .inr (9, [.ref q_t_come, .ref q_t_since, .int F_same])), (q_t_come, .inl (cI, 25, .inl A_come)), (q_t_since, .inl (cI, 25, .inl A_since)), (q_p0, .inr (5, [.ref q_p0_ways, .int F_p0_states, .int F_p0_marks, .int F_p0_takes, .int F_p0_changes])), (q_p0_ways, .inl (cI, 18, .inl A_p0_ways)), (q_p1, .inr (6, [.ref q_p1_letters, .ref q_p1_base, .int F_p1_size])), (q_p1_letters, .inl (cI, 24, .inl A_p1_letters)), (q_p1_base, .inl (cI, 25, .inl A_p1_base))] sz)) 0 0 (va_A [(q_t, .inr (9, [.ref q_t_come, .ref q_t_since, .int F_same])), (q_t_come, .inl (cI, 25, .inl A_come)), (q_t_since, .inl (cI, 25, .inl A_since)), (q_p0, .inr (5, [.ref q_p0_ways, .int F_p0_states, .int F_p0_marks, .int F_p0_takes, .int F_p0_changes])), (q_p0_ways, .inl (cI, 18, .inl A_p0_ways)), (q_p1, .inr (6, [.ref q_p1_letters, .ref q_p1_base, .int F_p1_size])), (q_p1_letters, .inl (cI, 24, .inl A_p1_letters)), (q_p1_base, .inl (cI, 25, .inl A_p1_base))] sz) := by
  refine ms_tv (cc := cX9_step) (maxL := 6) (by decide) rfl (Nat.le_of_ble_eq_true rfl) ?_
  intro p e s m args below meth c Q A hx hb hml hown hts hK hP hD hS hA hRet ls hl
  have hl : lv_has ls 6 [(0, .ref q_t), (1, .ref q_p0), (2, .ref q_p1), (3, .int p2)] := hl
  have hown : s.vm.findClass RX9 = some m.cls := hown
  refine lv_iload_n hx hb dX9_step_0 rfl (lv_at hl 3 rfl) ?_
  refine lv_if_lt (tgt := 10) hx hb dX9_step_1 (by decide) (fun c1 => ?_) (fun c1 => ?_)
  · have hw := hw.1 c1
    exact hRet ⟨A_come, A_since⟩ s.heap [] _ _ hw hP hD hS dX9_step_10
  · have hw := hw.2 c1
    refine lv_iload_n hx hb dX9_step_4 rfl (lv_at hl 3 rfl) ?_
    refine lv_bipush (v := (24)) hx hb dX9_step_5 (by decide) ?_
    refine lv_icmp_lt (tgt := 11) hx hb dX9_step_7 (by decide) (fun c2 => ?_) (fun c2 => ?_)
    · have hw := hw.1 c2
      refine lv_aload_n hx hb dX9_step_11 rfl (lv_at hl 2 rfl) ?_
      refine lv_iload_n hx hb dX9_step_12 rfl (lv_at hl 3 rfl) ?_
      refine ms_cVi ⟨hx, hb, hml, hown, hts⟩ hK hP hD (c_X6_letterAt l G cI cJ cZ q_p1 q_p1_letters q_p1_base F_p1_size A_p1_letters p2 hw) gX9_step_X6_letterAt rfl nd_X6_letterAt (ci := 6) rfl rfl rfl ⟨rfl, rfl⟩ rfl ⟨Nat.le_of_ble_eq_true rfl, Nat.le_of_ble_eq_true rfl⟩ hl.1 (rest := []) rfl (Nat.le_of_ble_eq_true rfl)  [5, 6] rfl rfl dX9_step_13 (fun r3 hw => ?_)
      refine lv_istore (lv' := [(4, .int r3), (0, .ref q_t), (1, .ref q_p0), (2, .ref q_p1), (3, .int p2)]) hx hb dX9_step_16 hl (by decide) rfl (fun ls hl => ?_)
      refine lv_aload_n hx hb dX9_step_18 rfl (lv_at hl 3 rfl) ?_
      refine lv_iload_n hx hb dX9_step_19 rfl (lv_at hl 4 rfl) ?_
      refine ms_cVi ⟨hx, hb, hml, hown, hts⟩ hK hP hD (c_X6_openAt l G cI cJ cZ q_p1 q_p1_letters q_p1_base F_p1_size A_p1_letters A_p1_base p2 hw) gX9_step_X6_openAt rfl nd_X6_openAt (ci := 6) rfl rfl rfl ⟨rfl, rfl⟩ rfl ⟨Nat.le_of_ble_eq_true rfl, Nat.le_of_ble_eq_true rfl⟩ hl.1 (rest := []) rfl (Nat.le_of_ble_eq_true rfl)  [5, 6, 7] rfl rfl dX9_step_20 (fun r4 hw => ?_)
      refine lv_istore (lv' := [(5, .int r4), (4, .int r3), (0, .ref q_t), (1, .ref q_p0), (2, .ref q_p1), (3, .int p2)]) hx hb dX9_step_23 hl (by decide) rfl (fun ls hl => ?_)
      refine lv_iload hx hb dX9_step_25 (lv_at hl 1 rfl) ?_
      refine ms_cSi ⟨hx, hb, hml, hown, hts⟩ hK hP hD (c_X5_isPlain l G cI cJ cZ r3 hw) gX9_step_X5_isPlain rfl nd_X5_isPlain ⟨rfl, rfl⟩ rfl ⟨Nat.le_of_ble_eq_true rfl, Nat.le_of_ble_eq_true rfl⟩ hl.1 (rest := []) rfl (Nat.le_of_ble_eq_true rfl)  [] rfl rfl dX9_step_27 (fun r5 hw => ?_)
      have zzr5 := hw.1
      have hw := hw.2
      refine lv_if_eq (tgt := 51) hx hb dX9_step_30 (by decide) (fun c6 => ?_) (fun c6 => ?_)
      · have hw := hw.1 c6
        refine lv_iload hx hb dX9_step_51 (lv_at hl 1 rfl) ?_
        refine ms_cSi ⟨hx, hb, hml, hown, hts⟩ hK hP hD (c_X5_closes l G cI cJ cZ r3 hw) gX9_step_X5_closes rfl nd_X5_closes ⟨rfl, rfl⟩ rfl ⟨Nat.le_of_ble_eq_true rfl, Nat.le_of_ble_eq_true rfl⟩ hl.1 (rest := []) rfl (Nat.le_of_ble_eq_true rfl)  [] rfl rfl dX9_step_53 (fun r7 hw => ?_)
        have zzr7 := hw.1
        have hw := hw.2
        refine lv_if_eq (tgt := 100) hx hb dX9_step_56 (by decide) (fun c8 => ?_) (fun c8 => ?_)
        · have hw := hw.1 c8
          refine lv_aload_n hx hb dX9_step_100 rfl (lv_at hl 2 rfl) ?_
          refine va_get (D := G) (ci := 9) (v := .ref q_t_come) (C := RX9) (T := TX9) (N := 3) hx hb hts hkX9_step_X9 hown hK hP 0 rfl rfl 0 (by decide) (hts (.fieldLink RX9 9 "NestReaders$Walk" "come" "[I") hfX9_step_9) (fun _ h9 => h9) rfl dX9_step_101 ?_
          refine lv_iload_n hx hb dX9_step_104 rfl (lv_at hl 5 rfl) ?_
          refine lv_iconst (v := 1) hx hb dX9_step_105 (by decide) ?_
          refine lv_iadd hx hb dX9_step_106 ?_
          refine lv_aload_n hx hb dX9_step_107 rfl (lv_at hl 2 rfl) ?_
          refine va_get (D := G) (ci := 9) (v := .ref q_t_come) (C := RX9) (T := TX9) (N := 3) hx hb hts hkX9_step_X9 hown hK hP 0 rfl rfl 0 (by decide) (hts (.fieldLink RX9 9 "NestReaders$Walk" "come" "[I") hfX9_step_9) (fun _ h9 => h9) rfl dX9_step_108 ?_
          refine lv_iload_n hx hb dX9_step_111 rfl (lv_at hl 5 rfl) ?_
          refine va_iald (D := G) hx hb hK hP 1 0 rfl rfl hw.1 dX9_step_112 ?_
          have hw := hw.2
          refine lv_aload_n hx hb dX9_step_113 rfl (lv_at hl 3 rfl) ?_
          refine lv_iload hx hb dX9_step_114 (lv_at hl 1 rfl) ?_
          refine ms_cVi ⟨hx, hb, hml, hown, hts⟩ hK hP hD (c_X5_alone l G cI cJ cZ q_p0 q_p0_ways F_p0_states F_p0_marks F_p0_takes F_p0_changes A_p0_ways r3 hw) gX9_step_X5_alone rfl nd_X5_alone (ci := 5) rfl rfl rfl ⟨rfl, rfl⟩ rfl ⟨Nat.le_of_ble_eq_true rfl, Nat.le_of_ble_eq_true rfl⟩ hl.1 (rest := [.int (A_come p2.toNatClampNeg), .int (p2 + (1 : Int32)), .ref q_t_come]) rfl (Nat.le_of_ble_eq_true rfl)  [3, 4] rfl rfl dX9_step_116 (fun r9 hw => ?_)
          refine ms_cSi ⟨hx, hb, hml, hown, hts⟩ hK hP hD (c_X5_image l G cI cJ cZ (A_come p2.toNatClampNeg) r9 hw) gX9_step_X5_image rfl nd_X5_image ⟨rfl, rfl⟩ rfl ⟨Nat.le_of_ble_eq_true rfl, Nat.le_of_ble_eq_true rfl⟩ hl.1 (rest := [.int (p2 + (1 : Int32)), .ref q_t_come]) rfl (Nat.le_of_ble_eq_true rfl)  [] rfl rfl dX9_step_119 (fun r10 hw => ?_)
          refine ms_iast hx hb hK hP hD hS 1 0 rfl rfl hw.1 dX9_step_122 (fun g11 H locs eg11 hP hD hS => ?_)
          have hw := hw.2 g11 eg11
          have hP : va_P G vwCl [(q_t, .inr (9, [.ref q_t_come, .ref q_t_since, .int F_same])), (q_t_come, .inl (cI, 25, .inl g11)), (q_t_since, .inl (cI, 25, .inl A_since)), (q_p0, .inr (5, [.ref q_p0_ways, .int F_p0_states, .int F_p0_marks, .int F_p0_takes, .int F_p0_changes])), (q_p0_ways, .inl (cI, 18, .inl A_p0_ways)), (q_p1, .inr (6, [.ref q_p1_letters, .ref q_p1_base, .int F_p1_size])), (q_p1_letters, .inl (cI, 24, .inl A_p1_letters)), (q_p1_base, .inl (cI, 25, .inl A_p1_base))] H := hP
          have hD : va_D A [(q_t, .inr (9, [.ref q_t_come, .ref q_t_since, .int F_same])), (q_t_come, .inl (cI, 25, .inl g11)), (q_t_since, .inl (cI, 25, .inl A_since)), (q_p0, .inr (5, [.ref q_p0_ways, .int F_p0_states, .int F_p0_marks, .int F_p0_takes, .int F_p0_changes])), (q_p0_ways, .inl (cI, 18, .inl A_p0_ways)), (q_p1, .inr (6, [.ref q_p1_letters, .ref q_p1_base, .int F_p1_size])), (q_p1_letters, .inl (cI, 24, .inl A_p1_letters)), (q_p1_base, .inl (cI, 25, .inl A_p1_base))] := hD
          refine lv_aload_n hx hb dX9_step_123 rfl (lv_at hl 2 rfl) ?_
          refine va_get (D := G) (ci := 9) (v := .ref q_t_since) (C := RX9) (T := TX9) (N := 3) hx hb hts hkX9_step_X9 hown hK hP 0 rfl rfl 1 (by decide) (hts (.fieldLink RX9 15 "NestReaders$Walk" "since" "[I") hfX9_step_15) (fun _ h9 => h9) rfl dX9_step_124 ?_
          refine lv_iload_n hx hb dX9_step_127 rfl (lv_at hl 5 rfl) ?_
          refine lv_iconst (v := 1) hx hb dX9_step_128 (by decide) ?_
          refine lv_iadd hx hb dX9_step_129 ?_
          refine lv_aload_n hx hb dX9_step_130 rfl (lv_at hl 2 rfl) ?_
          refine va_get (D := G) (ci := 9) (v := .int F_same) (C := RX9) (T := TX9) (N := 3) hx hb hts hkX9_step_X9 hown hK hP 0 rfl rfl 2 (by decide) (hts (.fieldLink RX9 18 "NestReaders$Walk" "same" "I") hfX9_step_18) (fun _ h9 => h9) rfl dX9_step_131 ?_
          refine ms_iast hx hb hK hP hD hS 2 0 rfl rfl hw.1 dX9_step_134 (fun g12 H locs eg12 hP hD hS => ?_)
          have hw := hw.2 g12 eg12
          have hP : va_P G vwCl [(q_t, .inr (9, [.ref q_t_come, .ref q_t_since, .int F_same])), (q_t_come, .inl (cI, 25, .inl g11)), (q_t_since, .inl (cI, 25, .inl g12)), (q_p0, .inr (5, [.ref q_p0_ways, .int F_p0_states, .int F_p0_marks, .int F_p0_takes, .int F_p0_changes])), (q_p0_ways, .inl (cI, 18, .inl A_p0_ways)), (q_p1, .inr (6, [.ref q_p1_letters, .ref q_p1_base, .int F_p1_size])), (q_p1_letters, .inl (cI, 24, .inl A_p1_letters)), (q_p1_base, .inl (cI, 25, .inl A_p1_base))] H := hP
          have hD : va_D A [(q_t, .inr (9, [.ref q_t_come, .ref q_t_since, .int F_same])), (q_t_come, .inl (cI, 25, .inl g11)), (q_t_since, .inl (cI, 25, .inl g12)), (q_p0, .inr (5, [.ref q_p0_ways, .int F_p0_states, .int F_p0_marks, .int F_p0_takes, .int F_p0_changes])), (q_p0_ways, .inl (cI, 18, .inl A_p0_ways)), (q_p1, .inr (6, [.ref q_p1_letters, .ref q_p1_base, .int F_p1_size])), (q_p1_letters, .inl (cI, 24, .inl A_p1_letters)), (q_p1_base, .inl (cI, 25, .inl A_p1_base))] := hD
          exact hRet ⟨g11, g12⟩ H locs _ _ hw hP hD hS dX9_step_135
        · have hw := hw.2 c8
          refine lv_iload hx hb dX9_step_59 (lv_at hl 0 rfl) ?_
          refine lv_if_lt (tgt := 100) hx hb dX9_step_61 (by decide) (fun c13 => ?_) (fun c13 => ?_)
          · have hw := hw.1 c13
            refine lv_aload_n hx hb dX9_step_100 rfl (lv_at hl 2 rfl) ?_
            refine va_get (D := G) (ci := 9) (v := .ref q_t_come) (C := RX9) (T := TX9) (N := 3) hx hb hts hkX9_step_X9 hown hK hP 0 rfl rfl 0 (by decide) (hts (.fieldLink RX9 9 "NestReaders$Walk" "come" "[I") hfX9_step_9) (fun _ h9 => h9) rfl dX9_step_101 ?_
            refine lv_iload_n hx hb dX9_step_104 rfl (lv_at hl 5 rfl) ?_
            refine lv_iconst (v := 1) hx hb dX9_step_105 (by decide) ?_
            refine lv_iadd hx hb dX9_step_106 ?_
            refine lv_aload_n hx hb dX9_step_107 rfl (lv_at hl 2 rfl) ?_
            refine va_get (D := G) (ci := 9) (v := .ref q_t_come) (C := RX9) (T := TX9) (N := 3) hx hb hts hkX9_step_X9 hown hK hP 0 rfl rfl 0 (by decide) (hts (.fieldLink RX9 9 "NestReaders$Walk" "come" "[I") hfX9_step_9) (fun _ h9 => h9) rfl dX9_step_108 ?_
            refine lv_iload_n hx hb dX9_step_111 rfl (lv_at hl 5 rfl) ?_
            refine va_iald (D := G) hx hb hK hP 1 0 rfl rfl hw.1 dX9_step_112 ?_
            have hw := hw.2
            refine lv_aload_n hx hb dX9_step_113 rfl (lv_at hl 3 rfl) ?_
            refine lv_iload hx hb dX9_step_114 (lv_at hl 1 rfl) ?_
            refine ms_cVi ⟨hx, hb, hml, hown, hts⟩ hK hP hD (c_X5_alone l G cI cJ cZ q_p0 q_p0_ways F_p0_states F_p0_marks F_p0_takes F_p0_changes A_p0_ways r3 hw) gX9_step_X5_alone rfl nd_X5_alone (ci := 5) rfl rfl rfl ⟨rfl, rfl⟩ rfl ⟨Nat.le_of_ble_eq_true rfl, Nat.le_of_ble_eq_true rfl⟩ hl.1 (rest := [.int (A_come p2.toNatClampNeg), .int (p2 + (1 : Int32)), .ref q_t_come]) rfl (Nat.le_of_ble_eq_true rfl)  [3, 4] rfl rfl dX9_step_116 (fun r14 hw => ?_)
            refine ms_cSi ⟨hx, hb, hml, hown, hts⟩ hK hP hD (c_X5_image l G cI cJ cZ (A_come p2.toNatClampNeg) r14 hw) gX9_step_X5_image rfl nd_X5_image ⟨rfl, rfl⟩ rfl ⟨Nat.le_of_ble_eq_true rfl, Nat.le_of_ble_eq_true rfl⟩ hl.1 (rest := [.int (p2 + (1 : Int32)), .ref q_t_come]) rfl (Nat.le_of_ble_eq_true rfl)  [] rfl rfl dX9_step_119 (fun r15 hw => ?_)
            refine ms_iast hx hb hK hP hD hS 1 0 rfl rfl hw.1 dX9_step_122 (fun g16 H locs eg16 hP hD hS => ?_)
            have hw := hw.2 g16 eg16
            have hP : va_P G vwCl [(q_t, .inr (9, [.ref q_t_come, .ref q_t_since, .int F_same])), (q_t_come, .inl (cI, 25, .inl g16)), (q_t_since, .inl (cI, 25, .inl A_since)), (q_p0, .inr (5, [.ref q_p0_ways, .int F_p0_states, .int F_p0_marks, .int F_p0_takes, .int F_p0_changes])), (q_p0_ways, .inl (cI, 18, .inl A_p0_ways)), (q_p1, .inr (6, [.ref q_p1_letters, .ref q_p1_base, .int F_p1_size])), (q_p1_letters, .inl (cI, 24, .inl A_p1_letters)), (q_p1_base, .inl (cI, 25, .inl A_p1_base))] H := hP
            have hD : va_D A [(q_t, .inr (9, [.ref q_t_come, .ref q_t_since, .int F_same])), (q_t_come, .inl (cI, 25, .inl g16)), (q_t_since, .inl (cI, 25, .inl A_since)), (q_p0, .inr (5, [.ref q_p0_ways, .int F_p0_states, .int F_p0_marks, .int F_p0_takes, .int F_p0_changes])), (q_p0_ways, .inl (cI, 18, .inl A_p0_ways)), (q_p1, .inr (6, [.ref q_p1_letters, .ref q_p1_base, .int F_p1_size])), (q_p1_letters, .inl (cI, 24, .inl A_p1_letters)), (q_p1_base, .inl (cI, 25, .inl A_p1_base))] := hD
            refine lv_aload_n hx hb dX9_step_123 rfl (lv_at hl 2 rfl) ?_
            refine va_get (D := G) (ci := 9) (v := .ref q_t_since) (C := RX9) (T := TX9) (N := 3) hx hb hts hkX9_step_X9 hown hK hP 0 rfl rfl 1 (by decide) (hts (.fieldLink RX9 15 "NestReaders$Walk" "since" "[I") hfX9_step_15) (fun _ h9 => h9) rfl dX9_step_124 ?_
            refine lv_iload_n hx hb dX9_step_127 rfl (lv_at hl 5 rfl) ?_
            refine lv_iconst (v := 1) hx hb dX9_step_128 (by decide) ?_
            refine lv_iadd hx hb dX9_step_129 ?_
            refine lv_aload_n hx hb dX9_step_130 rfl (lv_at hl 2 rfl) ?_
            refine va_get (D := G) (ci := 9) (v := .int F_same) (C := RX9) (T := TX9) (N := 3) hx hb hts hkX9_step_X9 hown hK hP 0 rfl rfl 2 (by decide) (hts (.fieldLink RX9 18 "NestReaders$Walk" "same" "I") hfX9_step_18) (fun _ h9 => h9) rfl dX9_step_131 ?_
            refine ms_iast hx hb hK hP hD hS 2 0 rfl rfl hw.1 dX9_step_134 (fun g17 H locs eg17 hP hD hS => ?_)
            have hw := hw.2 g17 eg17
            have hP : va_P G vwCl [(q_t, .inr (9, [.ref q_t_come, .ref q_t_since, .int F_same])), (q_t_come, .inl (cI, 25, .inl g16)), (q_t_since, .inl (cI, 25, .inl g17)), (q_p0, .inr (5, [.ref q_p0_ways, .int F_p0_states, .int F_p0_marks, .int F_p0_takes, .int F_p0_changes])), (q_p0_ways, .inl (cI, 18, .inl A_p0_ways)), (q_p1, .inr (6, [.ref q_p1_letters, .ref q_p1_base, .int F_p1_size])), (q_p1_letters, .inl (cI, 24, .inl A_p1_letters)), (q_p1_base, .inl (cI, 25, .inl A_p1_base))] H := hP
            have hD : va_D A [(q_t, .inr (9, [.ref q_t_come, .ref q_t_since, .int F_same])), (q_t_come, .inl (cI, 25, .inl g16)), (q_t_since, .inl (cI, 25, .inl g17)), (q_p0, .inr (5, [.ref q_p0_ways, .int F_p0_states, .int F_p0_marks, .int F_p0_takes, .int F_p0_changes])), (q_p0_ways, .inl (cI, 18, .inl A_p0_ways)), (q_p1, .inr (6, [.ref q_p1_letters, .ref q_p1_base, .int F_p1_size])), (q_p1_letters, .inl (cI, 24, .inl A_p1_letters)), (q_p1_base, .inl (cI, 25, .inl A_p1_base))] := hD
            exact hRet ⟨g16, g17⟩ H locs _ _ hw hP hD hS dX9_step_135
          · have hw := hw.2 c13
            refine lv_iload hx hb dX9_step_64 (lv_at hl 0 rfl) ?_
            refine lv_iload_n hx hb dX9_step_66 rfl (lv_at hl 5 rfl) ?_
            refine lv_icmp_ge (tgt := 100) hx hb dX9_step_67 (by decide) (fun c18 => ?_) (fun c18 => ?_)
            · have hw := hw.1 c18
              refine lv_aload_n hx hb dX9_step_100 rfl (lv_at hl 2 rfl) ?_
              refine va_get (D := G) (ci := 9) (v := .ref q_t_come) (C := RX9) (T := TX9) (N := 3) hx hb hts hkX9_step_X9 hown hK hP 0 rfl rfl 0 (by decide) (hts (.fieldLink RX9 9 "NestReaders$Walk" "come" "[I") hfX9_step_9) (fun _ h9 => h9) rfl dX9_step_101 ?_
              refine lv_iload_n hx hb dX9_step_104 rfl (lv_at hl 5 rfl) ?_
              refine lv_iconst (v := 1) hx hb dX9_step_105 (by decide) ?_
              refine lv_iadd hx hb dX9_step_106 ?_
              refine lv_aload_n hx hb dX9_step_107 rfl (lv_at hl 2 rfl) ?_
              refine va_get (D := G) (ci := 9) (v := .ref q_t_come) (C := RX9) (T := TX9) (N := 3) hx hb hts hkX9_step_X9 hown hK hP 0 rfl rfl 0 (by decide) (hts (.fieldLink RX9 9 "NestReaders$Walk" "come" "[I") hfX9_step_9) (fun _ h9 => h9) rfl dX9_step_108 ?_
              refine lv_iload_n hx hb dX9_step_111 rfl (lv_at hl 5 rfl) ?_
              refine va_iald (D := G) hx hb hK hP 1 0 rfl rfl hw.1 dX9_step_112 ?_
              have hw := hw.2
              refine lv_aload_n hx hb dX9_step_113 rfl (lv_at hl 3 rfl) ?_
              refine lv_iload hx hb dX9_step_114 (lv_at hl 1 rfl) ?_
              refine ms_cVi ⟨hx, hb, hml, hown, hts⟩ hK hP hD (c_X5_alone l G cI cJ cZ q_p0 q_p0_ways F_p0_states F_p0_marks F_p0_takes F_p0_changes A_p0_ways r3 hw) gX9_step_X5_alone rfl nd_X5_alone (ci := 5) rfl rfl rfl ⟨rfl, rfl⟩ rfl ⟨Nat.le_of_ble_eq_true rfl, Nat.le_of_ble_eq_true rfl⟩ hl.1 (rest := [.int (A_come p2.toNatClampNeg), .int (p2 + (1 : Int32)), .ref q_t_come]) rfl (Nat.le_of_ble_eq_true rfl)  [3, 4] rfl rfl dX9_step_116 (fun r19 hw => ?_)
              refine ms_cSi ⟨hx, hb, hml, hown, hts⟩ hK hP hD (c_X5_image l G cI cJ cZ (A_come p2.toNatClampNeg) r19 hw) gX9_step_X5_image rfl nd_X5_image ⟨rfl, rfl⟩ rfl ⟨Nat.le_of_ble_eq_true rfl, Nat.le_of_ble_eq_true rfl⟩ hl.1 (rest := [.int (p2 + (1 : Int32)), .ref q_t_come]) rfl (Nat.le_of_ble_eq_true rfl)  [] rfl rfl dX9_step_119 (fun r20 hw => ?_)
              refine ms_iast hx hb hK hP hD hS 1 0 rfl rfl hw.1 dX9_step_122 (fun g21 H locs eg21 hP hD hS => ?_)
              have hw := hw.2 g21 eg21
              have hP : va_P G vwCl [(q_t, .inr (9, [.ref q_t_come, .ref q_t_since, .int F_same])), (q_t_come, .inl (cI, 25, .inl g21)), (q_t_since, .inl (cI, 25, .inl A_since)), (q_p0, .inr (5, [.ref q_p0_ways, .int F_p0_states, .int F_p0_marks, .int F_p0_takes, .int F_p0_changes])), (q_p0_ways, .inl (cI, 18, .inl A_p0_ways)), (q_p1, .inr (6, [.ref q_p1_letters, .ref q_p1_base, .int F_p1_size])), (q_p1_letters, .inl (cI, 24, .inl A_p1_letters)), (q_p1_base, .inl (cI, 25, .inl A_p1_base))] H := hP
              have hD : va_D A [(q_t, .inr (9, [.ref q_t_come, .ref q_t_since, .int F_same])), (q_t_come, .inl (cI, 25, .inl g21)), (q_t_since, .inl (cI, 25, .inl A_since)), (q_p0, .inr (5, [.ref q_p0_ways, .int F_p0_states, .int F_p0_marks, .int F_p0_takes, .int F_p0_changes])), (q_p0_ways, .inl (cI, 18, .inl A_p0_ways)), (q_p1, .inr (6, [.ref q_p1_letters, .ref q_p1_base, .int F_p1_size])), (q_p1_letters, .inl (cI, 24, .inl A_p1_letters)), (q_p1_base, .inl (cI, 25, .inl A_p1_base))] := hD
              refine lv_aload_n hx hb dX9_step_123 rfl (lv_at hl 2 rfl) ?_
              refine va_get (D := G) (ci := 9) (v := .ref q_t_since) (C := RX9) (T := TX9) (N := 3) hx hb hts hkX9_step_X9 hown hK hP 0 rfl rfl 1 (by decide) (hts (.fieldLink RX9 15 "NestReaders$Walk" "since" "[I") hfX9_step_15) (fun _ h9 => h9) rfl dX9_step_124 ?_
              refine lv_iload_n hx hb dX9_step_127 rfl (lv_at hl 5 rfl) ?_
              refine lv_iconst (v := 1) hx hb dX9_step_128 (by decide) ?_
              refine lv_iadd hx hb dX9_step_129 ?_
              refine lv_aload_n hx hb dX9_step_130 rfl (lv_at hl 2 rfl) ?_
              refine va_get (D := G) (ci := 9) (v := .int F_same) (C := RX9) (T := TX9) (N := 3) hx hb hts hkX9_step_X9 hown hK hP 0 rfl rfl 2 (by decide) (hts (.fieldLink RX9 18 "NestReaders$Walk" "same" "I") hfX9_step_18) (fun _ h9 => h9) rfl dX9_step_131 ?_
              refine ms_iast hx hb hK hP hD hS 2 0 rfl rfl hw.1 dX9_step_134 (fun g22 H locs eg22 hP hD hS => ?_)
              have hw := hw.2 g22 eg22
              have hP : va_P G vwCl [(q_t, .inr (9, [.ref q_t_come, .ref q_t_since, .int F_same])), (q_t_come, .inl (cI, 25, .inl g21)), (q_t_since, .inl (cI, 25, .inl g22)), (q_p0, .inr (5, [.ref q_p0_ways, .int F_p0_states, .int F_p0_marks, .int F_p0_takes, .int F_p0_changes])), (q_p0_ways, .inl (cI, 18, .inl A_p0_ways)), (q_p1, .inr (6, [.ref q_p1_letters, .ref q_p1_base, .int F_p1_size])), (q_p1_letters, .inl (cI, 24, .inl A_p1_letters)), (q_p1_base, .inl (cI, 25, .inl A_p1_base))] H := hP
              have hD : va_D A [(q_t, .inr (9, [.ref q_t_come, .ref q_t_since, .int F_same])), (q_t_come, .inl (cI, 25, .inl g21)), (q_t_since, .inl (cI, 25, .inl g22)), (q_p0, .inr (5, [.ref q_p0_ways, .int F_p0_states, .int F_p0_marks, .int F_p0_takes, .int F_p0_changes])), (q_p0_ways, .inl (cI, 18, .inl A_p0_ways)), (q_p1, .inr (6, [.ref q_p1_letters, .ref q_p1_base, .int F_p1_size])), (q_p1_letters, .inl (cI, 24, .inl A_p1_letters)), (q_p1_base, .inl (cI, 25, .inl A_p1_base))] := hD
              exact hRet ⟨g21, g22⟩ H locs _ _ hw hP hD hS dX9_step_135
            · have hw := hw.2 c18
              refine lv_aload_n hx hb dX9_step_70 rfl (lv_at hl 2 rfl) ?_
              refine lv_iload hx hb dX9_step_71 (lv_at hl 0 rfl) ?_
              refine lv_aload_n hx hb dX9_step_73 rfl (lv_at hl 3 rfl) ?_
              refine lv_aload_n hx hb dX9_step_74 rfl (lv_at hl 4 rfl) ?_
              refine lv_iload hx hb dX9_step_75 (lv_at hl 0 rfl) ?_
              refine ms_cVi ⟨hx, hb, hml, hown, hts⟩ hK hP hD (c_X6_letterAt l G cI cJ cZ q_p1 q_p1_letters q_p1_base F_p1_size A_p1_letters r4 hw) gX9_step_X6_letterAt rfl nd_X6_letterAt (ci := 6) rfl rfl rfl ⟨rfl, rfl⟩ rfl ⟨Nat.le_of_ble_eq_true rfl, Nat.le_of_ble_eq_true rfl⟩ hl.1 (rest := [.ref q_p0, .int r4, .ref q_t]) rfl (Nat.le_of_ble_eq_true rfl)  [5, 6] rfl rfl dX9_step_77 (fun r23 hw => ?_)
              refine lv_iload hx hb dX9_step_80 (lv_at hl 1 rfl) ?_
              refine lv_aload_n hx hb dX9_step_82 rfl (lv_at hl 2 rfl) ?_
              refine va_get (D := G) (ci := 9) (v := .ref q_t_since) (C := RX9) (T := TX9) (N := 3) hx hb hts hkX9_step_X9 hown hK hP 0 rfl rfl 1 (by decide) (hts (.fieldLink RX9 15 "NestReaders$Walk" "since" "[I") hfX9_step_15) (fun _ h9 => h9) rfl dX9_step_83 ?_
              refine lv_iload_n hx hb dX9_step_86 rfl (lv_at hl 5 rfl) ?_
              refine va_iald (D := G) hx hb hK hP 2 0 rfl rfl hw.1 dX9_step_87 ?_
              have hw := hw.2
              refine ms_cVi ⟨hx, hb, hml, hown, hts⟩ hK hP hD (c_X5_wrapped l G cI cJ cZ q_p0 q_p0_ways F_p0_states F_p0_marks F_p0_takes F_p0_changes A_p0_ways r23 r3 (A_since p2.toNatClampNeg) hw) gX9_step_X5_wrapped rfl nd_X5_wrapped (ci := 5) rfl rfl rfl ⟨rfl, rfl⟩ rfl ⟨Nat.le_of_ble_eq_true rfl, Nat.le_of_ble_eq_true rfl⟩ hl.1 (rest := [.int r4, .ref q_t]) rfl (Nat.le_of_ble_eq_true rfl)  [3, 4] rfl rfl dX9_step_88 (fun r24 hw => ?_)
              refine lv_iload_n hx hb dX9_step_91 rfl (lv_at hl 5 rfl) ?_
              refine lv_iconst (v := 1) hx hb dX9_step_92 (by decide) ?_
              refine lv_iadd hx hb dX9_step_93 ?_
              refine ms_mVv (wr := [(q_p0, .inr (5, [.ref q_p0_ways, .int F_p0_states, .int F_p0_marks, .int F_p0_takes, .int F_p0_changes])), (q_p0_ways, .inl (cI, 18, .inl A_p0_ways)), (q_p1, .inr (6, [.ref q_p1_letters, .ref q_p1_base, .int F_p1_size])), (q_p1_letters, .inl (cI, 24, .inl A_p1_letters)), (q_p1_base, .inl (cI, 25, .inl A_p1_base))]) ⟨hx, hb, hml, hown, hts⟩ hK hP hD (c_X9_goOn l G cI cJ cZ q_t q_t_come q_t_since s.heap.size F_same A_come A_since r4 r24 (p2 + (1 : Int32)) hw) gX9_step_X9_goOn rfl nd_X9_goOn (ci := 9) rfl rfl rfl ⟨rfl, rfl⟩ rfl ⟨Nat.le_of_ble_eq_true rfl, Nat.le_of_ble_eq_true rfl⟩ hl.1 (rest := []) rfl (Nat.le_of_ble_eq_true rfl)  hS hA [0, 1, 2] [3, 4, 5, 6, 7] rfl rfl rfl (by decide) rfl dX9_step_94 (fun u H locs hw hP hD hS => ?_)
              obtain ⟨u25, u26⟩ := u
              obtain ⟨hP, hD⟩ : ms_PD G A [(q_t, .inr (9, [.ref q_t_come, .ref q_t_since, .int F_same])), (q_t_come, .inl (cI, 25, .inl u25)), (q_t_since, .inl (cI, 25, .inl u26)), (q_p0, .inr (5, [.ref q_p0_ways, .int F_p0_states, .int F_p0_marks, .int F_p0_takes, .int F_p0_changes])), (q_p0_ways, .inl (cI, 18, .inl A_p0_ways)), (q_p1, .inr (6, [.ref q_p1_letters, .ref q_p1_base, .int F_p1_size])), (q_p1_letters, .inl (cI, 24, .inl A_p1_letters)), (q_p1_base, .inl (cI, 25, .inl A_p1_base))] H := ms_PDsub hP hD [5, 6, 7, 0, 1, 2, 3, 4] (by decide +kernel) rfl
              refine lv_goto (tgt := 135) hx hb dX9_step_97 (by decide) ?_
              exact hRet ⟨u25, u26⟩ H locs _ _ hw hP hD hS dX9_step_135
      · have hw := hw.2 c6
        refine lv_aload_n hx hb dX9_step_33 rfl (lv_at hl 2 rfl) ?_
        refine lv_iload_n hx hb dX9_step_34 rfl (lv_at hl 5 rfl) ?_
        refine lv_aload_n hx hb dX9_step_35 rfl (lv_at hl 3 rfl) ?_
        refine lv_iload hx hb dX9_step_36 (lv_at hl 1 rfl) ?_
        refine lv_iconst (v := 0) hx hb dX9_step_38 (by decide) ?_
        refine ms_cVi ⟨hx, hb, hml, hown, hts⟩ hK hP hD (c_X5_way l G cI cJ cZ q_p0 q_p0_ways F_p0_states F_p0_marks F_p0_takes F_p0_changes A_p0_ways r3 (0 : Int32) hw) gX9_step_X5_way rfl nd_X5_way (ci := 5) rfl rfl rfl ⟨rfl, rfl⟩ rfl ⟨Nat.le_of_ble_eq_true rfl, Nat.le_of_ble_eq_true rfl⟩ hl.1 (rest := [.int p2, .ref q_t]) rfl (Nat.le_of_ble_eq_true rfl)  [3, 4] rfl rfl dX9_step_39 (fun r27 hw => ?_)
        refine lv_iload_n hx hb dX9_step_42 rfl (lv_at hl 5 rfl) ?_
        refine lv_iconst (v := 1) hx hb dX9_step_43 (by decide) ?_
        refine lv_iadd hx hb dX9_step_44 ?_
        refine ms_mVv (wr := [(q_p0, .inr (5, [.ref q_p0_ways, .int F_p0_states, .int F_p0_marks, .int F_p0_takes, .int F_p0_changes])), (q_p0_ways, .inl (cI, 18, .inl A_p0_ways)), (q_p1, .inr (6, [.ref q_p1_letters, .ref q_p1_base, .int F_p1_size])), (q_p1_letters, .inl (cI, 24, .inl A_p1_letters)), (q_p1_base, .inl (cI, 25, .inl A_p1_base))]) ⟨hx, hb, hml, hown, hts⟩ hK hP hD (c_X9_goOn l G cI cJ cZ q_t q_t_come q_t_since s.heap.size F_same A_come A_since p2 r27 (p2 + (1 : Int32)) hw) gX9_step_X9_goOn rfl nd_X9_goOn (ci := 9) rfl rfl rfl ⟨rfl, rfl⟩ rfl ⟨Nat.le_of_ble_eq_true rfl, Nat.le_of_ble_eq_true rfl⟩ hl.1 (rest := []) rfl (Nat.le_of_ble_eq_true rfl)  hS hA [0, 1, 2] [3, 4, 5, 6, 7] rfl rfl rfl (by decide) rfl dX9_step_45 (fun u H locs hw hP hD hS => ?_)
        obtain ⟨u28, u29⟩ := u
        obtain ⟨hP, hD⟩ : ms_PD G A [(q_t, .inr (9, [.ref q_t_come, .ref q_t_since, .int F_same])), (q_t_come, .inl (cI, 25, .inl u28)), (q_t_since, .inl (cI, 25, .inl u29)), (q_p0, .inr (5, [.ref q_p0_ways, .int F_p0_states, .int F_p0_marks, .int F_p0_takes, .int F_p0_changes])), (q_p0_ways, .inl (cI, 18, .inl A_p0_ways)), (q_p1, .inr (6, [.ref q_p1_letters, .ref q_p1_base, .int F_p1_size])), (q_p1_letters, .inl (cI, 24, .inl A_p1_letters)), (q_p1_base, .inl (cI, 25, .inl A_p1_base))] H := ms_PDsub hP hD [5, 6, 7, 0, 1, 2, 3, 4] (by decide +kernel) rfl
        refine lv_goto (tgt := 135) hx hb dX9_step_48 (by decide) ?_
        exact hRet ⟨u28, u29⟩ H locs _ _ hw hP hD hS dX9_step_135
    · have hw := hw.2 c2
      exact hRet ⟨A_come, A_since⟩ s.heap [] _ _ hw hP hD hS dX9_step_10
def wX9_follow_L8 (p2 : Int32) (F_p0_marks : Int32) (A_p0_ways : Nat → Int32) (F_p1_size : Int32) (A_p1_letters : Nat → Int32) (A_p1_base : Nat → Int32) (u1 : Int32) (E8 : Int32 → (Nat → Int32) → (Nat → Int32) → Prop) (i8_4 : Int32) (A_come_8 : Nat → Int32) (A_since_8 : Nat → Int32) : Prop :=
  ∀ P8 : Int32 → (Nat → Int32) → (Nat → Int32) → Prop, (∀ (i8_4 : Int32) (A_come_8 : Nat → Int32) (A_since_8 : Nat → Int32), ((p2 ≤ i8_4 → E8 i8_4 A_come_8 A_since_8) ∧ (¬ p2 ≤ i8_4 → (wX9_step i8_4 u1 A_come_8 A_since_8 F_p0_marks A_p0_ways F_p1_size A_p1_letters A_p1_base (fun u5 u6 => (∀ x7 : Int32, x7 = i8_4 + (1 : Int32) → P8 x7 u5 u6))))) → P8 i8_4 A_come_8 A_since_8) → P8 i8_4 A_come_8 A_since_8
def wX9_follow (p2 : Int32) (F_same : Int32) (A_come : Nat → Int32) (A_since : Nat → Int32) (F_p0_states : Int32) (F_p0_marks : Int32) (A_p0_ways : Nat → Int32) (F_p1_size : Int32) (A_p1_letters : Nat → Int32) (A_p1_base : Nat → Int32) (K : Int32 → (Nat → Int32) → (Nat → Int32) → Prop) : Prop :=
  (wX9_begin F_same A_come A_since F_p0_states (fun u1 u2 u3 => (wX9_follow_L8 p2 F_p0_marks A_p0_ways F_p1_size A_p1_letters A_p1_base u1 (fun i8_4 A_come_8 A_since_8 => K u1 A_come_8 A_since_8) (0 : Int32) u2 u3)))
abbrev rmX9_follow : Room := { frames := 4, cells := 0, slots := 0, locals := 93 }
theorem nd_X9_follow : yX9_follow.cls = RX9 ∧ yX9_follow.cls ≠ "java/lang/invoke/MethodHandle" ∧ yX9_follow.cls ≠ "java/lang/invoke/VarHandle" ∧ (parseMethodDescriptor yX9_follow.desc).map (fun d => d.parameters.length) = some 3 := by decide +kernel
set_option maxHeartbeats 4000000 in
set_option maxRecDepth 100000 in
theorem c_X9_follow (l : Launch) (G : va_G) (cI cJ cZ : ClassId) (q_t q_t_come q_t_since q_p0 q_p0_ways q_p1 q_p1_letters q_p1_base : Nat) (sz : Nat) (F_same : Int32) (A_come : Nat → Int32) (A_since : Nat → Int32) (F_p0_states : Int32) (F_p0_marks : Int32) (F_p0_takes : Int32) (F_p0_changes : Int32) (A_p0_ways : Nat → Int32) (F_p1_size : Int32) (A_p1_letters : Nat → Int32) (A_p1_base : Nat → Int32) (p2 : Int32) {K : Int32 → (Nat → Int32) → (Nat → Int32) → Prop} (hw : wX9_follow p2 F_same A_come A_since F_p0_states F_p0_marks A_p0_ways F_p1_size A_p1_letters A_p1_base K) : Met l yX9_follow wsX9_follow rmX9_follow (ms_Pz G (ms_T cI cJ cZ) [(q_t, .inr (9, [.ref q_t_come, .ref q_t_since, .int F_same])), (q_t_come, .inl (cI, 25, .inl A_come)), (q_t_since, .inl (cI, 25, .inl A_since)), (q_p0, .inr (5, [.ref q_p0_ways, .int F_p0_states, .int F_p0_marks, .int F_p0_takes, .int F_p0_changes])), (q_p0_ways, .inl (cI, 18, .inl A_p0_ways)), (q_p1, .inr (6, [.ref q_p1_letters, .ref q_p1_base, .int F_p1_size])), (q_p1_letters, .inl (cI, 24, .inl A_p1_letters)), (q_p1_base, .inl (cI, 25, .inl A_p1_base))] sz [.ref q_t, .ref q_p0, .ref q_p1, .int p2]) (ms_Wv G (ms_T cI cJ cZ) (fun (u : Int32 × (Nat → Int32) × (Nat → Int32)) => K u.1 u.2.1 u.2.2) (fun u : Int32 × (Nat → Int32) × (Nat → Int32) => [(q_t, .inr (9, [.ref q_t_come, .ref q_t_since, .int u.1])), (q_t_come, .inl (cI, 25, .inl u.2.1)), (q_t_since, .inl (cI, 25, .inl u.2.2)), (q_p0, .inr (5, [.ref q_p0_ways, .int F_p0_states, .int F_p0_marks, .int F_p0_takes, .int F_p0_changes])), (q_p0_ways, .inl (cI, 18, .inl A_p0_ways)), (q_p1, .inr (6, [.ref q_p1_letters, .ref q_p1_base, .int F_p1_size])), (q_p1_letters, .inl (cI, 24, .inl A_p1_letters)), (q_p1_base, .inl (cI, 25, .inl A_p1_base))]) (va_A [(q_t, .inr (9, [.ref q_t_come, .ref q_t_since, .int F_same])), (q_t_come, .inl (cI, 25, .inl A_come)), (q_t_since, .inl (cI, 25, .inl A_since)), (q_p0, .inr (5, [.ref q_p0_ways, .int F_p0_states, .int F_p0_marks, .int F_p0_takes, .int F_p0_changes])), (q_p0_ways, .inl (cI, 18, .inl A_p0_ways)), (q_p1, .inr (6, [.ref q_p1_letters, .ref q_p1_base, .int F_p1_size])), (q_p1_letters, .inl (cI, 24, .inl A_p1_letters)), (q_p1_base, .inl (cI, 25, .inl A_p1_base))] sz)) 0 0 (va_A [(q_t, .inr (9, [.ref q_t_come, .ref q_t_since, .int F_same])), (q_t_come, .inl (cI, 25, .inl A_come)), (q_t_since, .inl (cI, 25, .inl A_since)), (q_p0, .inr (5, [.ref q_p0_ways, .int F_p0_states, .int F_p0_marks, .int F_p0_takes, .int F_p0_changes])), (q_p0_ways, .inl (cI, 18, .inl A_p0_ways)), (q_p1, .inr (6, [.ref q_p1_letters, .ref q_p1_base, .int F_p1_size])), (q_p1_letters, .inl (cI, 24, .inl A_p1_letters)), (q_p1_base, .inl (cI, 25, .inl A_p1_base))] sz) := by
  refine ms_tv (cc := cX9_follow) (maxL := 5) (by decide) rfl (Nat.le_of_ble_eq_true rfl) ?_
  intro p e s m args below meth c Q A hx hb hml hown hts hK hP hD hS hA hRet ls hl
  have hl : lv_has ls 5 [(0, .ref q_t), (1, .ref q_p0), (2, .ref q_p1), (3, .int p2)] := hl
  have hown : s.vm.findClass RX9 = some m.cls := hown
  refine lv_aload_n hx hb dX9_follow_0 rfl (lv_at hl 0 rfl) ?_
  refine lv_aload_n hx hb dX9_follow_1 rfl (lv_at hl 1 rfl) ?_
  refine ms_mVv (wr := [(q_p0_ways, .inl (cI, 18, .inl A_p0_ways)), (q_p1, .inr (6, [.ref q_p1_letters, .ref q_p1_base, .int F_p1_size])), (q_p1_letters, .inl (cI, 24, .inl A_p1_letters)), (q_p1_base, .inl (cI, 25, .inl A_p1_base))]) ⟨hx, hb, hml, hown, hts⟩ hK hP hD (c_X9_begin l G cI cJ cZ q_t q_t_come q_t_since q_p0 q_p0_ways s.heap.size F_same A_come A_since F_p0_states F_p0_marks F_p0_takes F_p0_changes hw) gX9_follow_X9_begin rfl nd_X9_begin (ci := 9) rfl rfl rfl ⟨rfl, rfl⟩ rfl ⟨Nat.le_of_ble_eq_true rfl, Nat.le_of_ble_eq_true rfl⟩ hl.1 (rest := []) rfl (Nat.le_of_ble_eq_true rfl)  hS hA [0, 1, 2, 3] [4, 5, 6, 7] rfl rfl rfl (by decide) rfl dX9_follow_2 (fun u H locs hw hP hD hS => ?_)
  obtain ⟨u1, u2, u3⟩ := u
  obtain ⟨hP, hD⟩ : ms_PD G A [(q_t, .inr (9, [.ref q_t_come, .ref q_t_since, .int u1])), (q_t_come, .inl (cI, 25, .inl u2)), (q_t_since, .inl (cI, 25, .inl u3)), (q_p0, .inr (5, [.ref q_p0_ways, .int F_p0_states, .int F_p0_marks, .int F_p0_takes, .int F_p0_changes])), (q_p0_ways, .inl (cI, 18, .inl A_p0_ways)), (q_p1, .inr (6, [.ref q_p1_letters, .ref q_p1_base, .int F_p1_size])), (q_p1_letters, .inl (cI, 24, .inl A_p1_letters)), (q_p1_base, .inl (cI, 25, .inl A_p1_base))] H := ms_PDsub hP hD [4, 5, 6, 7, 0, 1, 2, 3] (by decide +kernel) rfl
  refine lv_iconst (v := 0) hx hb dX9_follow_5 (by decide) ?_
  refine lv_istore (lv' := [(4, .int (0 : Int32)), (0, .ref q_t), (1, .ref q_p0), (2, .ref q_p1), (3, .int p2)]) hx hb dX9_follow_6 hl (by decide) rfl (fun ls hl => ?_)
  refine hw (fun i8_4 A_come_8 A_since_8 => ∀ (H : Heap) (locs : List Loc), va_P G vwCl [(q_t, .inr (9, [.ref q_t_come, .ref q_t_since, .int u1])), (q_t_come, .inl (cI, 25, .inl A_come_8)), (q_t_since, .inl (cI, 25, .inl A_since_8)), (q_p0, .inr (5, [.ref q_p0_ways, .int F_p0_states, .int F_p0_marks, .int F_p0_takes, .int F_p0_changes])), (q_p0_ways, .inl (cI, 18, .inl A_p0_ways)), (q_p1, .inr (6, [.ref q_p1_letters, .ref q_p1_base, .int F_p1_size])), (q_p1_letters, .inl (cI, 24, .inl A_p1_letters)), (q_p1_base, .inl (cI, 25, .inl A_p1_base))] H → va_D A [(q_t, .inr (9, [.ref q_t_come, .ref q_t_since, .int u1])), (q_t_come, .inl (cI, 25, .inl A_come_8)), (q_t_since, .inl (cI, 25, .inl A_since_8)), (q_p0, .inr (5, [.ref q_p0_ways, .int F_p0_states, .int F_p0_marks, .int F_p0_takes, .int F_p0_changes])), (q_p0_ways, .inl (cI, 18, .inl A_p0_ways)), (q_p1, .inr (6, [.ref q_p1_letters, .ref q_p1_base, .int F_p1_size])), (q_p1_letters, .inl (cI, 24, .inl A_p1_letters)), (q_p1_base, .inl (cI, 25, .inl A_p1_base))] → va_S A s.heap H locs → ∀ ls : Array Slot, lv_has ls 5 [(0, .ref q_t), (1, .ref q_p0), (2, .ref q_p1), (3, .int p2), (4, .int i8_4)] → W p l e rmX9_follow s m args below meth c H locs 0 0 Q (F0 m 8 ls [])) (fun i8_4 A_come_8 A_since_8 hw H locs hP hD hS ls hl => ?_) H locs hP hD hS ls (lv_sub hl [1, 2, 3, 4, 0] rfl)
  refine lv_iload hx hb dX9_follow_8 (lv_at hl 4 rfl) ?_
  refine lv_iload_n hx hb dX9_follow_10 rfl (lv_at hl 3 rfl) ?_
  refine lv_icmp_ge (tgt := 28) hx hb dX9_follow_11 (by decide) (fun c4 => ?_) (fun c4 => ?_)
  · have hw := hw.1 c4
    exact hRet ⟨u1, A_come_8, A_since_8⟩ H locs _ _ hw hP hD hS dX9_follow_28
  · have hw := hw.2 c4
    refine lv_aload_n hx hb dX9_follow_14 rfl (lv_at hl 0 rfl) ?_
    refine lv_aload_n hx hb dX9_follow_15 rfl (lv_at hl 1 rfl) ?_
    refine lv_aload_n hx hb dX9_follow_16 rfl (lv_at hl 2 rfl) ?_
    refine lv_iload hx hb dX9_follow_17 (lv_at hl 4 rfl) ?_
    refine ms_mVv (wr := []) ⟨hx, hb, hml, hown, hts⟩ hK hP hD (c_X9_step l G cI cJ cZ q_t q_t_come q_t_since q_p0 q_p0_ways q_p1 q_p1_letters q_p1_base H.size u1 A_come_8 A_since_8 F_p0_states F_p0_marks F_p0_takes F_p0_changes A_p0_ways F_p1_size A_p1_letters A_p1_base i8_4 hw) gX9_follow_X9_step rfl nd_X9_step (ci := 9) rfl rfl rfl ⟨rfl, rfl⟩ rfl ⟨Nat.le_of_ble_eq_true rfl, Nat.le_of_ble_eq_true rfl⟩ hl.1 (rest := []) rfl (Nat.le_of_ble_eq_true rfl)  hS hA [0, 1, 2, 3, 4, 5, 6, 7] [] rfl rfl rfl (by decide) rfl dX9_follow_19 (fun u H locs hw hP hD hS => ?_)
    obtain ⟨u5, u6⟩ := u
    obtain ⟨hP, hD⟩ : ms_PD G A [(q_t, .inr (9, [.ref q_t_come, .ref q_t_since, .int u1])), (q_t_come, .inl (cI, 25, .inl u5)), (q_t_since, .inl (cI, 25, .inl u6)), (q_p0, .inr (5, [.ref q_p0_ways, .int F_p0_states, .int F_p0_marks, .int F_p0_takes, .int F_p0_changes])), (q_p0_ways, .inl (cI, 18, .inl A_p0_ways)), (q_p1, .inr (6, [.ref q_p1_letters, .ref q_p1_base, .int F_p1_size])), (q_p1_letters, .inl (cI, 24, .inl A_p1_letters)), (q_p1_base, .inl (cI, 25, .inl A_p1_base))] H := ms_PDsub hP hD [0, 1, 2, 3, 4, 5, 6, 7] (by decide +kernel) rfl
    obtain ⟨x7, ex7⟩ : ∃ y : Int32, y = i8_4 + (1 : Int32) := ⟨_, rfl⟩
    have hw := hw x7 ex7
    refine lv_iinc (v := x7) (lv' := [(4, .int x7), (0, .ref q_t), (1, .ref q_p0), (2, .ref q_p1), (3, .int p2)]) hx hb dX9_follow_22 hl (k := 4) rfl (by rw [ex7]; rfl) (by decide) rfl (fun ls hl => ?_)
    refine lv_goto (tgt := 8) hx hb dX9_follow_25 (by decide) ?_
    exact hw H locs hP hD hS ls (lv_sub hl [1, 2, 3, 4, 0] rfl)
