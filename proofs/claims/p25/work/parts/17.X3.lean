theorem ggX3_init_X6_init : GoodIn wsX3_init wsX6_init := gdC (gd1 m4_8)
theorem gX3_init_X6_init_n11 : GoodIn wsX3_init wsX6_init := gdC (gd1 m4_8)
theorem ggX3_init_X9_init : GoodIn wsX3_init wsX9_init := gdC (gd1 m4_14)
theorem gX3_init_X9_init_n20 : GoodIn wsX3_init wsX9_init := gdC (gd1 m4_14)
theorem dX3_init_0 : decode cX3_init 0 = .ok (.aload_n 0, 1) := by decide +kernel
theorem dX3_init_1 : decode cX3_init 1 = .ok (.invokespecial 3, 3) := by decide +kernel
theorem dX3_init_4 : decode cX3_init 4 = .ok (.aload_n 0, 1) := by decide +kernel
theorem dX3_init_5 : decode cX3_init 5 = .ok (.new 9, 3) := by decide +kernel
theorem dX3_init_8 : decode cX3_init 8 = .ok (.dup, 1) := by decide +kernel
theorem dX3_init_9 : decode cX3_init 9 = .ok (.invokespecial 11, 3) := by decide +kernel
theorem dX3_init_12 : decode cX3_init 12 = .ok (.putfield 12, 3) := by decide +kernel
theorem dX3_init_15 : decode cX3_init 15 = .ok (.aload_n 0, 1) := by decide +kernel
theorem dX3_init_16 : decode cX3_init 16 = .ok (.new 18, 3) := by decide +kernel
theorem dX3_init_19 : decode cX3_init 19 = .ok (.dup, 1) := by decide +kernel
theorem dX3_init_20 : decode cX3_init 20 = .ok (.invokespecial 20, 3) := by decide +kernel
theorem dX3_init_23 : decode cX3_init 23 = .ok (.putfield 21, 3) := by decide +kernel
theorem dX3_init_26 : decode cX3_init 26 = .ok (.aload_n 0, 1) := by decide +kernel
theorem dX3_init_27 : decode cX3_init 27 = .ok (.sipush 150, 3) := by decide +kernel
theorem dX3_init_30 : decode cX3_init 30 = .ok (.newarray .long, 2) := by decide +kernel
theorem dX3_init_32 : decode cX3_init 32 = .ok (.putfield 25, 3) := by decide +kernel
theorem dX3_init_35 : decode cX3_init 35 = .ok (.aload_n 0, 1) := by decide +kernel
theorem dX3_init_36 : decode cX3_init 36 = .ok (.bipush 6, 2) := by decide +kernel
theorem dX3_init_38 : decode cX3_init 38 = .ok (.newarray .boolean, 2) := by decide +kernel
theorem dX3_init_40 : decode cX3_init 40 = .ok (.putfield 29, 3) := by decide +kernel
theorem dX3_init_43 : decode cX3_init 43 = .ok (.aload_n 0, 1) := by decide +kernel
theorem dX3_init_44 : decode cX3_init 44 = .ok (.iconst (-1), 1) := by decide +kernel
theorem dX3_init_45 : decode cX3_init 45 = .ok (.putfield 33, 3) := by decide +kernel
theorem dX3_init_48 : decode cX3_init 48 = .ok (.aload_n 0, 1) := by decide +kernel
theorem dX3_init_49 : decode cX3_init 49 = .ok (.aload_n 1, 1) := by decide +kernel
theorem dX3_init_50 : decode cX3_init 50 = .ok (.putfield 37, 3) := by decide +kernel
theorem dX3_init_53 : decode cX3_init 53 = .ok (.return_, 1) := by decide +kernel
theorem ggX3_letterAt_X3_forgetIfChanged : GoodIn wsX3_letterAt wsX3_forgetIfChanged := gdC (gd1 m45_18)
theorem gX3_letterAt_X3_forgetIfChanged : GoodIn wsX3_letterAt (wsV RX3 41 RX3 yX3_forgetIfChanged wsX3_forgetIfChanged) := gdC (gd4 m45_15 m45_16 m45_17 m3_8 m45_18)
theorem ggX3_letterAt_X6_cut : GoodIn wsX3_letterAt wsX6_cut := gdC (gd1 m24_17)
theorem gX3_letterAt_X6_cut : GoodIn wsX3_letterAt (wsV RX3 44 RX6 yX6_cut wsX6_cut) := gdC (gd4 m45_20 m24_15 m24_16 m2_0 m24_17)
theorem ggX3_letterAt_X9_begin : GoodIn wsX3_letterAt wsX9_begin := gdC (gd1 m28_8)
theorem gX3_letterAt_X9_begin : GoodIn wsX3_letterAt (wsV RX3 48 RX9 yX9_begin wsX9_begin) := gdC (gd4 m45_21 m28_6 m28_7 m2_4 m28_8)
theorem ggX3_letterAt_X3_grow : GoodIn wsX3_letterAt wsX3_grow := gdC (gd1 m46_0)
theorem gX3_letterAt_X3_grow : GoodIn wsX3_letterAt (va_wsS RX3 52 yX3_grow wsX3_grow) := gdC (gd3 m45_22 m45_23 m3_8 m46_0)
theorem ggX3_letterAt_X3_numberOf : GoodIn wsX3_letterAt wsX3_numberOf := gdC (gd1 m46_13)
theorem gX3_letterAt_X3_numberOf : GoodIn wsX3_letterAt (wsV RX3 56 RX3 yX3_numberOf wsX3_numberOf) := gdC (gd4 m46_10 m46_11 m46_12 m3_8 m46_13)
theorem dX3_letterAt_0 : decode cX3_letterAt 0 = .ok (.iload_n 1, 1) := by decide +kernel
theorem dX3_letterAt_1 : decode cX3_letterAt 1 = .ok (.ifCond .lt 17, 3) := by decide +kernel
theorem dX3_letterAt_4 : decode cX3_letterAt 4 = .ok (.iload_n 1, 1) := by decide +kernel
theorem dX3_letterAt_5 : decode cX3_letterAt 5 = .ok (.iconst 5, 1) := by decide +kernel
theorem dX3_letterAt_6 : decode cX3_letterAt 6 = .ok (.if_icmp .gt 12, 3) := by decide +kernel
theorem dX3_letterAt_9 : decode cX3_letterAt 9 = .ok (.iload_n 3, 1) := by decide +kernel
theorem dX3_letterAt_10 : decode cX3_letterAt 10 = .ok (.ifCond .lt 8, 3) := by decide +kernel
theorem dX3_letterAt_13 : decode cX3_letterAt 13 = .ok (.iload_n 3, 1) := by decide +kernel
theorem dX3_letterAt_14 : decode cX3_letterAt 14 = .ok (.iload_n 1, 1) := by decide +kernel
theorem dX3_letterAt_15 : decode cX3_letterAt 15 = .ok (.if_icmp .lt 5, 3) := by decide +kernel
theorem dX3_letterAt_18 : decode cX3_letterAt 18 = .ok (.iconst (-1), 1) := by decide +kernel
theorem dX3_letterAt_19 : decode cX3_letterAt 19 = .ok (.ireturn, 1) := by decide +kernel
theorem dX3_letterAt_20 : decode cX3_letterAt 20 = .ok (.aload_n 0, 1) := by decide +kernel
theorem dX3_letterAt_21 : decode cX3_letterAt 21 = .ok (.invokevirtual 41, 3) := by decide +kernel
theorem dX3_letterAt_24 : decode cX3_letterAt 24 = .ok (.aload_n 0, 1) := by decide +kernel
theorem dX3_letterAt_25 : decode cX3_letterAt 25 = .ok (.getfield 29, 3) := by decide +kernel
theorem dX3_letterAt_28 : decode cX3_letterAt 28 = .ok (.iload_n 1, 1) := by decide +kernel
theorem dX3_letterAt_29 : decode cX3_letterAt 29 = .ok (.baload, 1) := by decide +kernel
theorem dX3_letterAt_30 : decode cX3_letterAt 30 = .ok (.ifCond .ne 36, 3) := by decide +kernel
theorem dX3_letterAt_33 : decode cX3_letterAt 33 = .ok (.aload_n 0, 1) := by decide +kernel
theorem dX3_letterAt_34 : decode cX3_letterAt 34 = .ok (.getfield 29, 3) := by decide +kernel
theorem dX3_letterAt_37 : decode cX3_letterAt 37 = .ok (.iload_n 1, 1) := by decide +kernel
theorem dX3_letterAt_38 : decode cX3_letterAt 38 = .ok (.iconst 1, 1) := by decide +kernel
theorem dX3_letterAt_39 : decode cX3_letterAt 39 = .ok (.bastore, 1) := by decide +kernel
theorem dX3_letterAt_40 : decode cX3_letterAt 40 = .ok (.aload_n 0, 1) := by decide +kernel
theorem dX3_letterAt_41 : decode cX3_letterAt 41 = .ok (.getfield 12, 3) := by decide +kernel
theorem dX3_letterAt_44 : decode cX3_letterAt 44 = .ok (.iconst 0, 1) := by decide +kernel
theorem dX3_letterAt_45 : decode cX3_letterAt 45 = .ok (.invokevirtual 44, 3) := by decide +kernel
theorem dX3_letterAt_48 : decode cX3_letterAt 48 = .ok (.aload_n 0, 1) := by decide +kernel
theorem dX3_letterAt_49 : decode cX3_letterAt 49 = .ok (.getfield 21, 3) := by decide +kernel
theorem dX3_letterAt_52 : decode cX3_letterAt 52 = .ok (.aload_n 0, 1) := by decide +kernel
theorem dX3_letterAt_53 : decode cX3_letterAt 53 = .ok (.getfield 37, 3) := by decide +kernel
theorem dX3_letterAt_56 : decode cX3_letterAt 56 = .ok (.invokevirtual 48, 3) := by decide +kernel
theorem dX3_letterAt_59 : decode cX3_letterAt 59 = .ok (.aload_n 0, 1) := by decide +kernel
theorem dX3_letterAt_60 : decode cX3_letterAt 60 = .ok (.iconst 0, 1) := by decide +kernel
theorem dX3_letterAt_61 : decode cX3_letterAt 61 = .ok (.iconst 0, 1) := by decide +kernel
theorem dX3_letterAt_62 : decode cX3_letterAt 62 = .ok (.iload_n 1, 1) := by decide +kernel
theorem dX3_letterAt_63 : decode cX3_letterAt 63 = .ok (.invokestatic 52, 3) := by decide +kernel
theorem dX3_letterAt_66 : decode cX3_letterAt 66 = .ok (.aload_n 0, 1) := by decide +kernel
theorem dX3_letterAt_67 : decode cX3_letterAt 67 = .ok (.iload_n 1, 1) := by decide +kernel
theorem dX3_letterAt_68 : decode cX3_letterAt 68 = .ok (.iload_n 2, 1) := by decide +kernel
theorem dX3_letterAt_69 : decode cX3_letterAt 69 = .ok (.invokevirtual 56, 3) := by decide +kernel
theorem dX3_letterAt_72 : decode cX3_letterAt 72 = .ok (.istore 4, 2) := by decide +kernel
theorem dX3_letterAt_74 : decode cX3_letterAt 74 = .ok (.iload_n 1, 1) := by decide +kernel
theorem dX3_letterAt_75 : decode cX3_letterAt 75 = .ok (.iconst 1, 1) := by decide +kernel
theorem dX3_letterAt_76 : decode cX3_letterAt 76 = .ok (.isub, 1) := by decide +kernel
theorem dX3_letterAt_77 : decode cX3_letterAt 77 = .ok (.istore 5, 2) := by decide +kernel
theorem dX3_letterAt_79 : decode cX3_letterAt 79 = .ok (.iload 5, 2) := by decide +kernel
theorem dX3_letterAt_81 : decode cX3_letterAt 81 = .ok (.iload_n 3, 1) := by decide +kernel
theorem dX3_letterAt_82 : decode cX3_letterAt 82 = .ok (.if_icmp .le 21, 3) := by decide +kernel
theorem dX3_letterAt_85 : decode cX3_letterAt 85 = .ok (.iload 4, 2) := by decide +kernel
theorem dX3_letterAt_87 : decode cX3_letterAt 87 = .ok (.ifCond .lt 16, 3) := by decide +kernel
theorem dX3_letterAt_90 : decode cX3_letterAt 90 = .ok (.iload 4, 2) := by decide +kernel
theorem dX3_letterAt_92 : decode cX3_letterAt 92 = .ok (.bipush 6, 2) := by decide +kernel
theorem dX3_letterAt_94 : decode cX3_letterAt 94 = .ok (.idiv, 1) := by decide +kernel
theorem dX3_letterAt_95 : decode cX3_letterAt 95 = .ok (.istore 4, 2) := by decide +kernel
theorem dX3_letterAt_97 : decode cX3_letterAt 97 = .ok (.iinc 5 (-1), 3) := by decide +kernel
theorem dX3_letterAt_100 : decode cX3_letterAt 100 = .ok (.goto (-21), 3) := by decide +kernel
theorem dX3_letterAt_103 : decode cX3_letterAt 103 = .ok (.iload 4, 2) := by decide +kernel
theorem dX3_letterAt_105 : decode cX3_letterAt 105 = .ok (.ifCond .lt 11, 3) := by decide +kernel
theorem dX3_letterAt_108 : decode cX3_letterAt 108 = .ok (.iload 4, 2) := by decide +kernel
theorem dX3_letterAt_110 : decode cX3_letterAt 110 = .ok (.bipush 6, 2) := by decide +kernel
theorem dX3_letterAt_112 : decode cX3_letterAt 112 = .ok (.irem, 1) := by decide +kernel
theorem dX3_letterAt_113 : decode cX3_letterAt 113 = .ok (.goto 4, 3) := by decide +kernel
theorem dX3_letterAt_116 : decode cX3_letterAt 116 = .ok (.iconst (-1), 1) := by decide +kernel
theorem dX3_letterAt_117 : decode cX3_letterAt 117 = .ok (.ireturn, 1) := by decide +kernel
theorem ggX3_forgetIfChanged_X5_changes : GoodIn wsX3_forgetIfChanged wsX5_changes := gdC (gd1 m34_21)
theorem gX3_forgetIfChanged_X5_changes : GoodIn wsX3_forgetIfChanged (wsV RX3 60 RX5 yX5_changes wsX5_changes) := gdC (gd4 m45_19 m34_19 m34_20 m1_15 m34_21)
theorem dX3_forgetIfChanged_0 : decode cX3_forgetIfChanged 0 = .ok (.aload_n 0, 1) := by decide +kernel
theorem dX3_forgetIfChanged_1 : decode cX3_forgetIfChanged 1 = .ok (.getfield 33, 3) := by decide +kernel
theorem dX3_forgetIfChanged_4 : decode cX3_forgetIfChanged 4 = .ok (.aload_n 0, 1) := by decide +kernel
theorem dX3_forgetIfChanged_5 : decode cX3_forgetIfChanged 5 = .ok (.getfield 37, 3) := by decide +kernel
theorem dX3_forgetIfChanged_8 : decode cX3_forgetIfChanged 8 = .ok (.invokevirtual 60, 3) := by decide +kernel
theorem dX3_forgetIfChanged_11 : decode cX3_forgetIfChanged 11 = .ok (.if_icmp .ne 4, 3) := by decide +kernel
theorem dX3_forgetIfChanged_14 : decode cX3_forgetIfChanged 14 = .ok (.return_, 1) := by decide +kernel
theorem dX3_forgetIfChanged_15 : decode cX3_forgetIfChanged 15 = .ok (.aload_n 0, 1) := by decide +kernel
theorem dX3_forgetIfChanged_16 : decode cX3_forgetIfChanged 16 = .ok (.aload_n 0, 1) := by decide +kernel
theorem dX3_forgetIfChanged_17 : decode cX3_forgetIfChanged 17 = .ok (.getfield 37, 3) := by decide +kernel
theorem dX3_forgetIfChanged_20 : decode cX3_forgetIfChanged 20 = .ok (.invokevirtual 60, 3) := by decide +kernel
theorem dX3_forgetIfChanged_23 : decode cX3_forgetIfChanged 23 = .ok (.putfield 33, 3) := by decide +kernel
theorem dX3_forgetIfChanged_26 : decode cX3_forgetIfChanged 26 = .ok (.iconst 0, 1) := by decide +kernel
theorem dX3_forgetIfChanged_27 : decode cX3_forgetIfChanged 27 = .ok (.istore_n 1, 1) := by decide +kernel
theorem dX3_forgetIfChanged_28 : decode cX3_forgetIfChanged 28 = .ok (.iload_n 1, 1) := by decide +kernel
theorem dX3_forgetIfChanged_29 : decode cX3_forgetIfChanged 29 = .ok (.sipush 150, 3) := by decide +kernel
theorem dX3_forgetIfChanged_32 : decode cX3_forgetIfChanged 32 = .ok (.if_icmp .ge 16, 3) := by decide +kernel
theorem dX3_forgetIfChanged_35 : decode cX3_forgetIfChanged 35 = .ok (.aload_n 0, 1) := by decide +kernel
theorem dX3_forgetIfChanged_36 : decode cX3_forgetIfChanged 36 = .ok (.getfield 25, 3) := by decide +kernel
theorem dX3_forgetIfChanged_39 : decode cX3_forgetIfChanged 39 = .ok (.iload_n 1, 1) := by decide +kernel
theorem dX3_forgetIfChanged_40 : decode cX3_forgetIfChanged 40 = .ok (.lconst 0, 1) := by decide +kernel
theorem dX3_forgetIfChanged_41 : decode cX3_forgetIfChanged 41 = .ok (.lastore, 1) := by decide +kernel
theorem dX3_forgetIfChanged_42 : decode cX3_forgetIfChanged 42 = .ok (.iinc 1 1, 3) := by decide +kernel
theorem dX3_forgetIfChanged_45 : decode cX3_forgetIfChanged 45 = .ok (.goto (-17), 3) := by decide +kernel
theorem dX3_forgetIfChanged_48 : decode cX3_forgetIfChanged 48 = .ok (.iconst 0, 1) := by decide +kernel
theorem dX3_forgetIfChanged_49 : decode cX3_forgetIfChanged 49 = .ok (.istore_n 1, 1) := by decide +kernel
theorem dX3_forgetIfChanged_50 : decode cX3_forgetIfChanged 50 = .ok (.iload_n 1, 1) := by decide +kernel
theorem dX3_forgetIfChanged_51 : decode cX3_forgetIfChanged 51 = .ok (.iconst 5, 1) := by decide +kernel
theorem dX3_forgetIfChanged_52 : decode cX3_forgetIfChanged 52 = .ok (.if_icmp .gt 16, 3) := by decide +kernel
theorem dX3_forgetIfChanged_55 : decode cX3_forgetIfChanged 55 = .ok (.aload_n 0, 1) := by decide +kernel
theorem dX3_forgetIfChanged_56 : decode cX3_forgetIfChanged 56 = .ok (.getfield 29, 3) := by decide +kernel
theorem dX3_forgetIfChanged_59 : decode cX3_forgetIfChanged 59 = .ok (.iload_n 1, 1) := by decide +kernel
theorem dX3_forgetIfChanged_60 : decode cX3_forgetIfChanged 60 = .ok (.iconst 0, 1) := by decide +kernel
theorem dX3_forgetIfChanged_61 : decode cX3_forgetIfChanged 61 = .ok (.bastore, 1) := by decide +kernel
theorem dX3_forgetIfChanged_62 : decode cX3_forgetIfChanged 62 = .ok (.iinc 1 1, 3) := by decide +kernel
theorem dX3_forgetIfChanged_65 : decode cX3_forgetIfChanged 65 = .ok (.goto (-15), 3) := by decide +kernel
theorem dX3_forgetIfChanged_68 : decode cX3_forgetIfChanged 68 = .ok (.return_, 1) := by decide +kernel
theorem ggX3_grow_X9_comeAt : GoodIn wsX3_grow wsX9_comeAt := gdC (gd1 m29_21)
theorem gX3_grow_X9_comeAt : GoodIn wsX3_grow (wsV RX3 66 RX9 yX9_comeAt wsX9_comeAt) := gdC (gd4 m46_1 m29_19 m29_20 m2_4 m29_21)
theorem ggX3_grow_X5_takesAny : GoodIn wsX3_grow wsX5_takesAny := gdC (gd1 m30_1)
theorem gX3_grow_X5_takesAny : GoodIn wsX3_grow (wsV RX3 70 RX5 yX5_takesAny wsX5_takesAny) := gdC (gd4 m46_2 m29_23 m30_0 m1_15 m30_1)
theorem ggX3_grow_X3_keep : GoodIn wsX3_grow wsX3_keep := gdC (gd1 m46_6)
theorem gX3_grow_X3_keep : GoodIn wsX3_grow (wsV RX3 74 RX3 yX3_keep wsX3_keep) := gdC (gd4 m46_3 m46_4 m46_5 m3_8 m46_6)
theorem ggX3_grow_X6_cut : GoodIn wsX3_grow wsX6_cut := gdC (gd1 m24_17)
theorem gX3_grow_X6_cut : GoodIn wsX3_grow (wsV RX3 44 RX6 yX6_cut wsX6_cut) := gdC (gd4 m45_20 m24_15 m24_16 m2_0 m24_17)
theorem ggX3_grow_X6_append : GoodIn wsX3_grow wsX6_append := gdC (gd1 m23_9)
theorem gX3_grow_X6_append : GoodIn wsX3_grow (wsV RX3 78 RX6 yX6_append wsX6_append) := gdC (gd4 m46_8 m23_7 m23_8 m2_0 m23_9)
theorem ggX3_grow_X9_step : GoodIn wsX3_grow wsX9_step := gdC (gd1 m28_16)
theorem gX3_grow_X9_step : GoodIn wsX3_grow (wsV RX3 81 RX9 yX9_step wsX9_step) := gdC (gd4 m46_9 m28_14 m28_15 m2_4 m28_16)
theorem ggX3_grow_X3_grow : GoodIn wsX3_grow wsX3_grow := gdC (gd1 m46_0)
theorem gX3_grow_X3_grow : GoodIn wsX3_grow (va_wsS RX3 52 yX3_grow wsX3_grow) := gdC (gd3 m45_22 m45_23 m3_8 m46_0)
theorem dX3_grow_0 : decode cX3_grow 0 = .ok (.aload_n 0, 1) := by decide +kernel
theorem dX3_grow_1 : decode cX3_grow 1 = .ok (.getfield 21, 3) := by decide +kernel
theorem dX3_grow_4 : decode cX3_grow 4 = .ok (.iload_n 1, 1) := by decide +kernel
theorem dX3_grow_5 : decode cX3_grow 5 = .ok (.invokevirtual 66, 3) := by decide +kernel
theorem dX3_grow_8 : decode cX3_grow 8 = .ok (.istore 4, 2) := by decide +kernel
theorem dX3_grow_10 : decode cX3_grow 10 = .ok (.iload_n 1, 1) := by decide +kernel
theorem dX3_grow_11 : decode cX3_grow 11 = .ok (.iload_n 3, 1) := by decide +kernel
theorem dX3_grow_12 : decode cX3_grow 12 = .ok (.if_icmp .ne 21, 3) := by decide +kernel
theorem dX3_grow_15 : decode cX3_grow 15 = .ok (.aload_n 0, 1) := by decide +kernel
theorem dX3_grow_16 : decode cX3_grow 16 = .ok (.getfield 37, 3) := by decide +kernel
theorem dX3_grow_19 : decode cX3_grow 19 = .ok (.iload 4, 2) := by decide +kernel
theorem dX3_grow_21 : decode cX3_grow 21 = .ok (.invokevirtual 70, 3) := by decide +kernel
theorem dX3_grow_24 : decode cX3_grow 24 = .ok (.ifCond .eq 9, 3) := by decide +kernel
theorem dX3_grow_27 : decode cX3_grow 27 = .ok (.aload_n 0, 1) := by decide +kernel
theorem dX3_grow_28 : decode cX3_grow 28 = .ok (.iload_n 3, 1) := by decide +kernel
theorem dX3_grow_29 : decode cX3_grow 29 = .ok (.iload_n 2, 1) := by decide +kernel
theorem dX3_grow_30 : decode cX3_grow 30 = .ok (.invokevirtual 74, 3) := by decide +kernel
theorem dX3_grow_33 : decode cX3_grow 33 = .ok (.iload_n 1, 1) := by decide +kernel
theorem dX3_grow_34 : decode cX3_grow 34 = .ok (.iload_n 3, 1) := by decide +kernel
theorem dX3_grow_35 : decode cX3_grow 35 = .ok (.if_icmp .ge 13, 3) := by decide +kernel
theorem dX3_grow_38 : decode cX3_grow 38 = .ok (.iload_n 1, 1) := by decide +kernel
theorem dX3_grow_39 : decode cX3_grow 39 = .ok (.iconst 5, 1) := by decide +kernel
theorem dX3_grow_40 : decode cX3_grow 40 = .ok (.if_icmp .ge 8, 3) := by decide +kernel
theorem dX3_grow_43 : decode cX3_grow 43 = .ok (.iload 4, 2) := by decide +kernel
theorem dX3_grow_45 : decode cX3_grow 45 = .ok (.ifCond .ne 4, 3) := by decide +kernel
theorem dX3_grow_48 : decode cX3_grow 48 = .ok (.return_, 1) := by decide +kernel
theorem dX3_grow_49 : decode cX3_grow 49 = .ok (.iconst 0, 1) := by decide +kernel
theorem dX3_grow_50 : decode cX3_grow 50 = .ok (.istore 5, 2) := by decide +kernel
theorem dX3_grow_52 : decode cX3_grow 52 = .ok (.iload 5, 2) := by decide +kernel
theorem dX3_grow_54 : decode cX3_grow 54 = .ok (.bipush 6, 2) := by decide +kernel
theorem dX3_grow_56 : decode cX3_grow 56 = .ok (.if_icmp .ge 57, 3) := by decide +kernel
theorem dX3_grow_59 : decode cX3_grow 59 = .ok (.aload_n 0, 1) := by decide +kernel
theorem dX3_grow_60 : decode cX3_grow 60 = .ok (.getfield 12, 3) := by decide +kernel
theorem dX3_grow_63 : decode cX3_grow 63 = .ok (.iload_n 1, 1) := by decide +kernel
theorem dX3_grow_64 : decode cX3_grow 64 = .ok (.invokevirtual 44, 3) := by decide +kernel
theorem dX3_grow_67 : decode cX3_grow 67 = .ok (.aload_n 0, 1) := by decide +kernel
theorem dX3_grow_68 : decode cX3_grow 68 = .ok (.getfield 12, 3) := by decide +kernel
theorem dX3_grow_71 : decode cX3_grow 71 = .ok (.iload 5, 2) := by decide +kernel
theorem dX3_grow_73 : decode cX3_grow 73 = .ok (.invokevirtual 78, 3) := by decide +kernel
theorem dX3_grow_76 : decode cX3_grow 76 = .ok (.aload_n 0, 1) := by decide +kernel
theorem dX3_grow_77 : decode cX3_grow 77 = .ok (.getfield 21, 3) := by decide +kernel
theorem dX3_grow_80 : decode cX3_grow 80 = .ok (.aload_n 0, 1) := by decide +kernel
theorem dX3_grow_81 : decode cX3_grow 81 = .ok (.getfield 37, 3) := by decide +kernel
theorem dX3_grow_84 : decode cX3_grow 84 = .ok (.aload_n 0, 1) := by decide +kernel
theorem dX3_grow_85 : decode cX3_grow 85 = .ok (.getfield 12, 3) := by decide +kernel
theorem dX3_grow_88 : decode cX3_grow 88 = .ok (.iload_n 1, 1) := by decide +kernel
theorem dX3_grow_89 : decode cX3_grow 89 = .ok (.invokevirtual 81, 3) := by decide +kernel
theorem dX3_grow_92 : decode cX3_grow 92 = .ok (.aload_n 0, 1) := by decide +kernel
theorem dX3_grow_93 : decode cX3_grow 93 = .ok (.iload_n 1, 1) := by decide +kernel
theorem dX3_grow_94 : decode cX3_grow 94 = .ok (.iconst 1, 1) := by decide +kernel
theorem dX3_grow_95 : decode cX3_grow 95 = .ok (.iadd, 1) := by decide +kernel
theorem dX3_grow_96 : decode cX3_grow 96 = .ok (.iload_n 2, 1) := by decide +kernel
theorem dX3_grow_97 : decode cX3_grow 97 = .ok (.bipush 6, 2) := by decide +kernel
theorem dX3_grow_99 : decode cX3_grow 99 = .ok (.imul, 1) := by decide +kernel
theorem dX3_grow_100 : decode cX3_grow 100 = .ok (.iload 5, 2) := by decide +kernel
theorem dX3_grow_102 : decode cX3_grow 102 = .ok (.iadd, 1) := by decide +kernel
theorem dX3_grow_103 : decode cX3_grow 103 = .ok (.iload_n 3, 1) := by decide +kernel
theorem dX3_grow_104 : decode cX3_grow 104 = .ok (.invokestatic 52, 3) := by decide +kernel
theorem dX3_grow_107 : decode cX3_grow 107 = .ok (.iinc 5 1, 3) := by decide +kernel
theorem dX3_grow_110 : decode cX3_grow 110 = .ok (.goto (-58), 3) := by decide +kernel
theorem dX3_grow_113 : decode cX3_grow 113 = .ok (.return_, 1) := by decide +kernel
theorem dX3_keep_0 : decode cX3_keep 0 = .ok (.getstatic 85, 3) := by decide +kernel
theorem dX3_keep_3 : decode cX3_keep 3 = .ok (.iload_n 1, 1) := by decide +kernel
theorem dX3_keep_4 : decode cX3_keep 4 = .ok (.iaload, 1) := by decide +kernel
theorem dX3_keep_5 : decode cX3_keep 5 = .ok (.iload_n 2, 1) := by decide +kernel
theorem dX3_keep_6 : decode cX3_keep 6 = .ok (.bipush 64, 2) := by decide +kernel
theorem dX3_keep_8 : decode cX3_keep 8 = .ok (.idiv, 1) := by decide +kernel
theorem dX3_keep_9 : decode cX3_keep 9 = .ok (.iadd, 1) := by decide +kernel
theorem dX3_keep_10 : decode cX3_keep 10 = .ok (.istore_n 3, 1) := by decide +kernel
theorem dX3_keep_11 : decode cX3_keep 11 = .ok (.iload_n 3, 1) := by decide +kernel
theorem dX3_keep_12 : decode cX3_keep 12 = .ok (.ifCond .lt 25, 3) := by decide +kernel
theorem dX3_keep_15 : decode cX3_keep 15 = .ok (.iload_n 3, 1) := by decide +kernel
theorem dX3_keep_16 : decode cX3_keep 16 = .ok (.sipush 150, 3) := by decide +kernel
theorem dX3_keep_19 : decode cX3_keep 19 = .ok (.if_icmp .ge 18, 3) := by decide +kernel
theorem dX3_keep_22 : decode cX3_keep 22 = .ok (.aload_n 0, 1) := by decide +kernel
theorem dX3_keep_23 : decode cX3_keep 23 = .ok (.getfield 25, 3) := by decide +kernel
theorem dX3_keep_26 : decode cX3_keep 26 = .ok (.iload_n 3, 1) := by decide +kernel
theorem dX3_keep_27 : decode cX3_keep 27 = .ok (.dup2, 1) := by decide +kernel
theorem dX3_keep_28 : decode cX3_keep 28 = .ok (.laload, 1) := by decide +kernel
theorem dX3_keep_29 : decode cX3_keep 29 = .ok (.lconst 1, 1) := by decide +kernel
theorem dX3_keep_30 : decode cX3_keep 30 = .ok (.iload_n 2, 1) := by decide +kernel
theorem dX3_keep_31 : decode cX3_keep 31 = .ok (.bipush 64, 2) := by decide +kernel
theorem dX3_keep_33 : decode cX3_keep 33 = .ok (.irem, 1) := by decide +kernel
theorem dX3_keep_34 : decode cX3_keep 34 = .ok (.lshl, 1) := by decide +kernel
theorem dX3_keep_35 : decode cX3_keep 35 = .ok (.lor, 1) := by decide +kernel
theorem dX3_keep_36 : decode cX3_keep 36 = .ok (.lastore, 1) := by decide +kernel
theorem dX3_keep_37 : decode cX3_keep 37 = .ok (.return_, 1) := by decide +kernel
theorem ggX3_numberOf_J13_bitCount_95d88 : GoodIn wsX3_numberOf wsJ13_bitCount_95d88 := gdC (gd1 m39_3)
theorem gX3_numberOf_J13_bitCount_95d88 : GoodIn wsX3_numberOf (va_wsS RX3 89 yJ13_bitCount_95d88 wsJ13_bitCount_95d88) := gdC (gd3 m46_14 m39_1 m39_2 m39_3)
theorem ggX3_numberOf_X3_placeOf : GoodIn wsX3_numberOf wsX3_placeOf := gdC (gd1 m46_17)
theorem gX3_numberOf_X3_placeOf : GoodIn wsX3_numberOf (va_wsS RX3 95 yX3_placeOf wsX3_placeOf) := gdC (gd3 m46_15 m46_16 m3_8 m46_17)
theorem dX3_numberOf_0 : decode cX3_numberOf 0 = .ok (.iload_n 1, 1) := by decide +kernel
theorem dX3_numberOf_1 : decode cX3_numberOf 1 = .ok (.iconst 5, 1) := by decide +kernel
theorem dX3_numberOf_2 : decode cX3_numberOf 2 = .ok (.if_icmp .ge 13, 3) := by decide +kernel
theorem dX3_numberOf_5 : decode cX3_numberOf 5 = .ok (.getstatic 85, 3) := by decide +kernel
theorem dX3_numberOf_8 : decode cX3_numberOf 8 = .ok (.iload_n 1, 1) := by decide +kernel
theorem dX3_numberOf_9 : decode cX3_numberOf 9 = .ok (.iconst 1, 1) := by decide +kernel
theorem dX3_numberOf_10 : decode cX3_numberOf 10 = .ok (.iadd, 1) := by decide +kernel
theorem dX3_numberOf_11 : decode cX3_numberOf 11 = .ok (.iaload, 1) := by decide +kernel
theorem dX3_numberOf_12 : decode cX3_numberOf 12 = .ok (.goto 6, 3) := by decide +kernel
theorem dX3_numberOf_15 : decode cX3_numberOf 15 = .ok (.sipush 150, 3) := by decide +kernel
theorem dX3_numberOf_18 : decode cX3_numberOf 18 = .ok (.istore_n 3, 1) := by decide +kernel
theorem dX3_numberOf_19 : decode cX3_numberOf 19 = .ok (.iload_n 2, 1) := by decide +kernel
theorem dX3_numberOf_20 : decode cX3_numberOf 20 = .ok (.istore 4, 2) := by decide +kernel
theorem dX3_numberOf_22 : decode cX3_numberOf 22 = .ok (.getstatic 85, 3) := by decide +kernel
theorem dX3_numberOf_25 : decode cX3_numberOf 25 = .ok (.iload_n 1, 1) := by decide +kernel
theorem dX3_numberOf_26 : decode cX3_numberOf 26 = .ok (.iaload, 1) := by decide +kernel
theorem dX3_numberOf_27 : decode cX3_numberOf 27 = .ok (.istore 5, 2) := by decide +kernel
theorem dX3_numberOf_29 : decode cX3_numberOf 29 = .ok (.iload 5, 2) := by decide +kernel
theorem dX3_numberOf_31 : decode cX3_numberOf 31 = .ok (.iload_n 3, 1) := by decide +kernel
theorem dX3_numberOf_32 : decode cX3_numberOf 32 = .ok (.if_icmp .ge 60, 3) := by decide +kernel
theorem dX3_numberOf_35 : decode cX3_numberOf 35 = .ok (.aload_n 0, 1) := by decide +kernel
theorem dX3_numberOf_36 : decode cX3_numberOf 36 = .ok (.getfield 25, 3) := by decide +kernel
theorem dX3_numberOf_39 : decode cX3_numberOf 39 = .ok (.iload 5, 2) := by decide +kernel
theorem dX3_numberOf_41 : decode cX3_numberOf 41 = .ok (.laload, 1) := by decide +kernel
theorem dX3_numberOf_42 : decode cX3_numberOf 42 = .ok (.invokestatic 89, 3) := by decide +kernel
theorem dX3_numberOf_45 : decode cX3_numberOf 45 = .ok (.istore 6, 2) := by decide +kernel
theorem dX3_numberOf_47 : decode cX3_numberOf 47 = .ok (.iload 4, 2) := by decide +kernel
theorem dX3_numberOf_49 : decode cX3_numberOf 49 = .ok (.iload 6, 2) := by decide +kernel
theorem dX3_numberOf_51 : decode cX3_numberOf 51 = .ok (.if_icmp .ge 28, 3) := by decide +kernel
theorem dX3_numberOf_54 : decode cX3_numberOf 54 = .ok (.iload 5, 2) := by decide +kernel
theorem dX3_numberOf_56 : decode cX3_numberOf 56 = .ok (.getstatic 85, 3) := by decide +kernel
theorem dX3_numberOf_59 : decode cX3_numberOf 59 = .ok (.iload_n 1, 1) := by decide +kernel
theorem dX3_numberOf_60 : decode cX3_numberOf 60 = .ok (.iaload, 1) := by decide +kernel
theorem dX3_numberOf_61 : decode cX3_numberOf 61 = .ok (.isub, 1) := by decide +kernel
theorem dX3_numberOf_62 : decode cX3_numberOf 62 = .ok (.bipush 64, 2) := by decide +kernel
theorem dX3_numberOf_64 : decode cX3_numberOf 64 = .ok (.imul, 1) := by decide +kernel
theorem dX3_numberOf_65 : decode cX3_numberOf 65 = .ok (.aload_n 0, 1) := by decide +kernel
theorem dX3_numberOf_66 : decode cX3_numberOf 66 = .ok (.getfield 25, 3) := by decide +kernel
theorem dX3_numberOf_69 : decode cX3_numberOf 69 = .ok (.iload 5, 2) := by decide +kernel
theorem dX3_numberOf_71 : decode cX3_numberOf 71 = .ok (.laload, 1) := by decide +kernel
theorem dX3_numberOf_72 : decode cX3_numberOf 72 = .ok (.iload 4, 2) := by decide +kernel
theorem dX3_numberOf_74 : decode cX3_numberOf 74 = .ok (.invokestatic 95, 3) := by decide +kernel
theorem dX3_numberOf_77 : decode cX3_numberOf 77 = .ok (.iadd, 1) := by decide +kernel
theorem dX3_numberOf_78 : decode cX3_numberOf 78 = .ok (.ireturn, 1) := by decide +kernel
theorem dX3_numberOf_79 : decode cX3_numberOf 79 = .ok (.iload 4, 2) := by decide +kernel
theorem dX3_numberOf_81 : decode cX3_numberOf 81 = .ok (.iload 6, 2) := by decide +kernel
theorem dX3_numberOf_83 : decode cX3_numberOf 83 = .ok (.isub, 1) := by decide +kernel
theorem dX3_numberOf_84 : decode cX3_numberOf 84 = .ok (.istore 4, 2) := by decide +kernel
theorem dX3_numberOf_86 : decode cX3_numberOf 86 = .ok (.iinc 5 1, 3) := by decide +kernel
theorem dX3_numberOf_89 : decode cX3_numberOf 89 = .ok (.goto (-60), 3) := by decide +kernel
theorem dX3_numberOf_92 : decode cX3_numberOf 92 = .ok (.iconst (-1), 1) := by decide +kernel
theorem dX3_numberOf_93 : decode cX3_numberOf 93 = .ok (.ireturn, 1) := by decide +kernel
theorem dX3_placeOf_0 : decode cX3_placeOf 0 = .ok (.iload_n 2, 1) := by decide +kernel
theorem dX3_placeOf_1 : decode cX3_placeOf 1 = .ok (.istore_n 3, 1) := by decide +kernel
theorem dX3_placeOf_2 : decode cX3_placeOf 2 = .ok (.iconst 0, 1) := by decide +kernel
theorem dX3_placeOf_3 : decode cX3_placeOf 3 = .ok (.istore 4, 2) := by decide +kernel
theorem dX3_placeOf_5 : decode cX3_placeOf 5 = .ok (.iload 4, 2) := by decide +kernel
theorem dX3_placeOf_7 : decode cX3_placeOf 7 = .ok (.bipush 64, 2) := by decide +kernel
theorem dX3_placeOf_9 : decode cX3_placeOf 9 = .ok (.if_icmp .ge 30, 3) := by decide +kernel
theorem dX3_placeOf_12 : decode cX3_placeOf 12 = .ok (.lload_n 0, 1) := by decide +kernel
theorem dX3_placeOf_13 : decode cX3_placeOf 13 = .ok (.iload 4, 2) := by decide +kernel
theorem dX3_placeOf_15 : decode cX3_placeOf 15 = .ok (.lshr, 1) := by decide +kernel
theorem dX3_placeOf_16 : decode cX3_placeOf 16 = .ok (.lconst 1, 1) := by decide +kernel
theorem dX3_placeOf_17 : decode cX3_placeOf 17 = .ok (.land, 1) := by decide +kernel
theorem dX3_placeOf_18 : decode cX3_placeOf 18 = .ok (.lconst 0, 1) := by decide +kernel
theorem dX3_placeOf_19 : decode cX3_placeOf 19 = .ok (.lcmp, 1) := by decide +kernel
theorem dX3_placeOf_20 : decode cX3_placeOf 20 = .ok (.ifCond .eq 13, 3) := by decide +kernel
theorem dX3_placeOf_23 : decode cX3_placeOf 23 = .ok (.iload_n 3, 1) := by decide +kernel
theorem dX3_placeOf_24 : decode cX3_placeOf 24 = .ok (.ifCond .ne 6, 3) := by decide +kernel
theorem dX3_placeOf_27 : decode cX3_placeOf 27 = .ok (.iload 4, 2) := by decide +kernel
theorem dX3_placeOf_29 : decode cX3_placeOf 29 = .ok (.ireturn, 1) := by decide +kernel
theorem dX3_placeOf_30 : decode cX3_placeOf 30 = .ok (.iinc 3 (-1), 3) := by decide +kernel
theorem dX3_placeOf_33 : decode cX3_placeOf 33 = .ok (.iinc 4 1, 3) := by decide +kernel
theorem dX3_placeOf_36 : decode cX3_placeOf 36 = .ok (.goto (-31), 3) := by decide +kernel
theorem dX3_placeOf_39 : decode cX3_placeOf 39 = .ok (.iconst (-1), 1) := by decide +kernel
theorem dX3_placeOf_40 : decode cX3_placeOf 40 = .ok (.ireturn, 1) := by decide +kernel
def wX3_forgetIfChanged_L50  (E50 : Int32 → (Nat → Int32) → Prop) (i50_1 : Int32) (A_listed_50 : Nat → Int32) : Prop :=
  ∀ P50 : Int32 → (Nat → Int32) → Prop, (∀ (i50_1 : Int32) (A_listed_50 : Nat → Int32), (((5 : Int32) < i50_1 → E50 i50_1 A_listed_50) ∧ (¬ (5 : Int32) < i50_1 → (vp_in i50_1 6 ∧ (∀ g6 : Nat → Int32, g6 = upd A_listed_50 i50_1.toNatClampNeg (vp_nar .boolean (0 : Int32)) → (∀ x7 : Int32, x7 = i50_1 + (1 : Int32) → P50 x7 g6))))) → P50 i50_1 A_listed_50) → P50 i50_1 A_listed_50
def wX3_forgetIfChanged_L28  (E28 : Int32 → (Nat → Int64) → Prop) (i28_1 : Int32) (A_words_28 : Nat → Int64) : Prop :=
  ∀ P28 : Int32 → (Nat → Int64) → Prop, (∀ (i28_1 : Int32) (A_words_28 : Nat → Int64), (((150 : Int32) ≤ i28_1 → E28 i28_1 A_words_28) ∧ (¬ (150 : Int32) ≤ i28_1 → (vp_in i28_1 150 ∧ (∀ g8 : Nat → Int64, g8 = vp_updL A_words_28 i28_1.toNatClampNeg (0 : Int64) → (∀ x9 : Int32, x9 = i28_1 + (1 : Int32) → P28 x9 g8))))) → P28 i28_1 A_words_28) → P28 i28_1 A_words_28
def wX3_forgetIfChanged (F_seen : Int32) (F_reader_changes : Int32) (A_words : Nat → Int64) (A_listed : Nat → Int32) (K : Int32 → (Nat → Int64) → (Nat → Int32) → Prop) : Prop :=
  (wX5_changes F_reader_changes (fun r1 => ((F_seen = r1 → K F_seen A_words A_listed) ∧ (¬ F_seen = r1 → (wX5_changes F_reader_changes (fun r3 => (wX3_forgetIfChanged_L28  (fun i28_1 A_words_28 => (wX3_forgetIfChanged_L50  (fun i50_1 A_listed_50 => K r3 A_words_28 A_listed_50) (0 : Int32) A_listed)) (0 : Int32) A_words)))))))
abbrev rmX3_forgetIfChanged : Room := { frames := 1, cells := 0, slots := 0, locals := 20 }
theorem nd_X3_forgetIfChanged : yX3_forgetIfChanged.cls = RX3 ∧ yX3_forgetIfChanged.cls ≠ "java/lang/invoke/MethodHandle" ∧ yX3_forgetIfChanged.cls ≠ "java/lang/invoke/VarHandle" ∧ (parseMethodDescriptor yX3_forgetIfChanged.desc).map (fun d => d.parameters.length) = some 0 := by decide +kernel
theorem hkX3_forgetIfChanged_X3 : ∀ w ∈ u_ws RX3 TX3 6, w ∈ wsX3_forgetIfChanged := fun w h => List.mem_cons_of_mem _ (inlX3 w h)
theorem hfX3_forgetIfChanged_33 : (Cond.fieldLink RX3 33 "NestReaders$Listing" "seen" "I") ∈ wsX3_forgetIfChanged := List.mem_cons_of_mem _ m8_14
theorem hfX3_forgetIfChanged_37 : (Cond.fieldLink RX3 37 "NestReaders$Listing" "reader" "LNestReaders$Reader;") ∈ wsX3_forgetIfChanged := List.mem_cons_of_mem _ m8_15
theorem hfX3_forgetIfChanged_29 : (Cond.fieldLink RX3 29 "NestReaders$Listing" "listed" "[Z") ∈ wsX3_forgetIfChanged := List.mem_cons_of_mem _ m8_13
theorem hfX3_forgetIfChanged_25 : (Cond.fieldLink RX3 25 "NestReaders$Listing" "words" "[J") ∈ wsX3_forgetIfChanged := List.mem_cons_of_mem _ m8_11
set_option maxHeartbeats 4000000 in
set_option maxRecDepth 100000 in
theorem c_X3_forgetIfChanged (l : Launch) (G : va_G) (cI cJ cZ : ClassId) (q_t q_t_reader q_t_row q_t_walk q_t_words q_t_listed q_t_reader_ways : Nat) (sz : Nat) (F_seen : Int32) (F_reader_states : Int32) (F_reader_marks : Int32) (F_reader_takes : Int32) (F_reader_changes : Int32) (A_words : Nat → Int64) (A_listed : Nat → Int32) {K : Int32 → (Nat → Int64) → (Nat → Int32) → Prop} (hw : wX3_forgetIfChanged F_seen F_reader_changes A_words A_listed K) : Met l yX3_forgetIfChanged wsX3_forgetIfChanged rmX3_forgetIfChanged (ms_Pz G (ms_T cI cJ cZ) [(q_t, .inr (3, [.ref q_t_reader, .ref q_t_row, .ref q_t_walk, .ref q_t_words, .ref q_t_listed, .int F_seen])), (q_t_reader, .inr (5, [.ref q_t_reader_ways, .int F_reader_states, .int F_reader_marks, .int F_reader_takes, .int F_reader_changes])), (q_t_words, .inl (cJ, 150, .inr (.inl A_words))), (q_t_listed, .inl (cZ, 6, .inl A_listed))] sz [.ref q_t]) (ms_Wv G (ms_T cI cJ cZ) (fun (u : Int32 × (Nat → Int64) × (Nat → Int32)) => K u.1 u.2.1 u.2.2) (fun u : Int32 × (Nat → Int64) × (Nat → Int32) => [(q_t, .inr (3, [.ref q_t_reader, .ref q_t_row, .ref q_t_walk, .ref q_t_words, .ref q_t_listed, .int u.1])), (q_t_reader, .inr (5, [.ref q_t_reader_ways, .int F_reader_states, .int F_reader_marks, .int F_reader_takes, .int F_reader_changes])), (q_t_words, .inl (cJ, 150, .inr (.inl u.2.1))), (q_t_listed, .inl (cZ, 6, .inl u.2.2))]) (va_A [(q_t, .inr (3, [.ref q_t_reader, .ref q_t_row, .ref q_t_walk, .ref q_t_words, .ref q_t_listed, .int F_seen])), (q_t_reader, .inr (5, [.ref q_t_reader_ways, .int F_reader_states, .int F_reader_marks, .int F_reader_takes, .int F_reader_changes])), (q_t_words, .inl (cJ, 150, .inr (.inl A_words))), (q_t_listed, .inl (cZ, 6, .inl A_listed))] sz)) 0 0 (va_A [(q_t, .inr (3, [.ref q_t_reader, .ref q_t_row, .ref q_t_walk, .ref q_t_words, .ref q_t_listed, .int F_seen])), (q_t_reader, .inr (5, [.ref q_t_reader_ways, .int F_reader_states, .int F_reader_marks, .int F_reader_takes, .int F_reader_changes])), (q_t_words, .inl (cJ, 150, .inr (.inl A_words))), (q_t_listed, .inl (cZ, 6, .inl A_listed))] sz) := by
  refine ms_tv (cc := cX3_forgetIfChanged) (maxL := 2) (by decide) rfl (Nat.le_of_ble_eq_true rfl) ?_
  intro p e s m args below meth c Q A hx hb hml hown hts hK hP hD hS hA hRet ls hl
  have hl : lv_has ls 2 [(0, .ref q_t)] := hl
  have hown : s.vm.findClass RX3 = some m.cls := hown
  refine lv_aload_n hx hb dX3_forgetIfChanged_0 rfl (lv_at hl 0 rfl) ?_
  refine va_get (D := G) (ci := 3) (v := .int F_seen) (C := RX3) (T := TX3) (N := 6) hx hb hts hkX3_forgetIfChanged_X3 hown hK hP 0 rfl rfl 5 (by decide) (hts (.fieldLink RX3 33 "NestReaders$Listing" "seen" "I") hfX3_forgetIfChanged_33) (fun _ h9 => h9) rfl dX3_forgetIfChanged_1 ?_
  refine lv_aload_n hx hb dX3_forgetIfChanged_4 rfl (lv_at hl 0 rfl) ?_
  refine va_get (D := G) (ci := 3) (v := .ref q_t_reader) (C := RX3) (T := TX3) (N := 6) hx hb hts hkX3_forgetIfChanged_X3 hown hK hP 0 rfl rfl 0 (by decide) (hts (.fieldLink RX3 37 "NestReaders$Listing" "reader" "LNestReaders$Reader;") hfX3_forgetIfChanged_37) (fun _ h9 => h9) rfl dX3_forgetIfChanged_5 ?_
  refine ms_cVi ⟨hx, hb, hml, hown, hts⟩ hK hP hD (c_X5_changes l G cI cJ cZ q_t_reader q_t_reader_ways F_reader_states F_reader_marks F_reader_takes F_reader_changes hw) gX3_forgetIfChanged_X5_changes rfl nd_X5_changes (ci := 5) rfl rfl rfl ⟨rfl, rfl⟩ rfl ⟨Nat.le_of_ble_eq_true rfl, Nat.le_of_ble_eq_true rfl⟩ hl.1 (rest := [.int F_seen]) rfl (Nat.le_of_ble_eq_true rfl)  [1] rfl rfl dX3_forgetIfChanged_8 (fun r1 hw => ?_)
  refine lv_icmp_ne (tgt := 15) hx hb dX3_forgetIfChanged_11 (by decide) (fun c2 => ?_) (fun c2 => ?_)
  · have hw := hw.2 c2
    refine lv_aload_n hx hb dX3_forgetIfChanged_15 rfl (lv_at hl 0 rfl) ?_
    refine lv_aload_n hx hb dX3_forgetIfChanged_16 rfl (lv_at hl 0 rfl) ?_
    refine va_get (D := G) (ci := 3) (v := .ref q_t_reader) (C := RX3) (T := TX3) (N := 6) hx hb hts hkX3_forgetIfChanged_X3 hown hK hP 0 rfl rfl 0 (by decide) (hts (.fieldLink RX3 37 "NestReaders$Listing" "reader" "LNestReaders$Reader;") hfX3_forgetIfChanged_37) (fun _ h9 => h9) rfl dX3_forgetIfChanged_17 ?_
    refine ms_cVi ⟨hx, hb, hml, hown, hts⟩ hK hP hD (c_X5_changes l G cI cJ cZ q_t_reader q_t_reader_ways F_reader_states F_reader_marks F_reader_takes F_reader_changes hw) gX3_forgetIfChanged_X5_changes rfl nd_X5_changes (ci := 5) rfl rfl rfl ⟨rfl, rfl⟩ rfl ⟨Nat.le_of_ble_eq_true rfl, Nat.le_of_ble_eq_true rfl⟩ hl.1 (rest := [.ref q_t]) rfl (Nat.le_of_ble_eq_true rfl)  [1] rfl rfl dX3_forgetIfChanged_20 (fun r3 hw => ?_)
    refine va_put (D := G) (ci := 3) (v := .int r3) (ty := .int) (C := RX3) (T := TX3) (N := 6) hx hb hts hkX3_forgetIfChanged_X3 tyX3 tyX3_ok nmX3 hown hK hP hD hS 0 rfl rfl 5 (by decide) (hts (.fieldLink RX3 33 "NestReaders$Listing" "seen" "I") hfX3_forgetIfChanged_33) (fun _ h9 => h9) rfl (by decide +kernel) rfl rfl (Nat.le_of_ble_eq_true rfl) dX3_forgetIfChanged_23 (fun H locs hP hD hS => ?_)
    have hP : va_P G vwCl [(q_t, .inr (3, [.ref q_t_reader, .ref q_t_row, .ref q_t_walk, .ref q_t_words, .ref q_t_listed, .int r3])), (q_t_reader, .inr (5, [.ref q_t_reader_ways, .int F_reader_states, .int F_reader_marks, .int F_reader_takes, .int F_reader_changes])), (q_t_words, .inl (cJ, 150, .inr (.inl A_words))), (q_t_listed, .inl (cZ, 6, .inl A_listed))] H := hP
    have hD : va_D A [(q_t, .inr (3, [.ref q_t_reader, .ref q_t_row, .ref q_t_walk, .ref q_t_words, .ref q_t_listed, .int r3])), (q_t_reader, .inr (5, [.ref q_t_reader_ways, .int F_reader_states, .int F_reader_marks, .int F_reader_takes, .int F_reader_changes])), (q_t_words, .inl (cJ, 150, .inr (.inl A_words))), (q_t_listed, .inl (cZ, 6, .inl A_listed))] := hD
    refine lv_iconst (v := 0) hx hb dX3_forgetIfChanged_26 (by decide) ?_
    refine lv_istore_n (lv' := [(1, .int (0 : Int32)), (0, .ref q_t)]) hx hb dX3_forgetIfChanged_27 rfl hl (by decide) rfl (fun ls hl => ?_)
    refine hw (fun i28_1 A_words_28 => ∀ (H : Heap) (locs : List Loc), va_P G vwCl [(q_t, .inr (3, [.ref q_t_reader, .ref q_t_row, .ref q_t_walk, .ref q_t_words, .ref q_t_listed, .int r3])), (q_t_reader, .inr (5, [.ref q_t_reader_ways, .int F_reader_states, .int F_reader_marks, .int F_reader_takes, .int F_reader_changes])), (q_t_words, .inl (cJ, 150, .inr (.inl A_words_28))), (q_t_listed, .inl (cZ, 6, .inl A_listed))] H → va_D A [(q_t, .inr (3, [.ref q_t_reader, .ref q_t_row, .ref q_t_walk, .ref q_t_words, .ref q_t_listed, .int r3])), (q_t_reader, .inr (5, [.ref q_t_reader_ways, .int F_reader_states, .int F_reader_marks, .int F_reader_takes, .int F_reader_changes])), (q_t_words, .inl (cJ, 150, .inr (.inl A_words_28))), (q_t_listed, .inl (cZ, 6, .inl A_listed))] → va_S A s.heap H locs → ∀ ls : Array Slot, lv_has ls 2 [(0, .ref q_t), (1, .int i28_1)] → W p l e rmX3_forgetIfChanged s m args below meth c H locs 0 0 Q (F0 m 28 ls [])) (fun i28_1 A_words_28 hw H locs hP hD hS ls hl => ?_) H locs hP hD hS ls (lv_sub hl [1, 0] rfl)
    refine lv_iload_n hx hb dX3_forgetIfChanged_28 rfl (lv_at hl 1 rfl) ?_
    refine lv_sipush (v := (150)) hx hb dX3_forgetIfChanged_29 (by decide) ?_
    refine lv_icmp_ge (tgt := 48) hx hb dX3_forgetIfChanged_32 (by decide) (fun c4 => ?_) (fun c4 => ?_)
    · have hw := hw.1 c4
      refine lv_iconst (v := 0) hx hb dX3_forgetIfChanged_48 (by decide) ?_
      refine lv_istore_n (lv' := [(1, .int (0 : Int32)), (0, .ref q_t)]) hx hb dX3_forgetIfChanged_49 rfl hl (by decide) rfl (fun ls hl => ?_)
      refine hw (fun i50_1 A_listed_50 => ∀ (H : Heap) (locs : List Loc), va_P G vwCl [(q_t, .inr (3, [.ref q_t_reader, .ref q_t_row, .ref q_t_walk, .ref q_t_words, .ref q_t_listed, .int r3])), (q_t_reader, .inr (5, [.ref q_t_reader_ways, .int F_reader_states, .int F_reader_marks, .int F_reader_takes, .int F_reader_changes])), (q_t_words, .inl (cJ, 150, .inr (.inl A_words_28))), (q_t_listed, .inl (cZ, 6, .inl A_listed_50))] H → va_D A [(q_t, .inr (3, [.ref q_t_reader, .ref q_t_row, .ref q_t_walk, .ref q_t_words, .ref q_t_listed, .int r3])), (q_t_reader, .inr (5, [.ref q_t_reader_ways, .int F_reader_states, .int F_reader_marks, .int F_reader_takes, .int F_reader_changes])), (q_t_words, .inl (cJ, 150, .inr (.inl A_words_28))), (q_t_listed, .inl (cZ, 6, .inl A_listed_50))] → va_S A s.heap H locs → ∀ ls : Array Slot, lv_has ls 2 [(0, .ref q_t), (1, .int i50_1)] → W p l e rmX3_forgetIfChanged s m args below meth c H locs 0 0 Q (F0 m 50 ls [])) (fun i50_1 A_listed_50 hw H locs hP hD hS ls hl => ?_) H locs hP hD hS ls (lv_sub hl [1, 0] rfl)
      refine lv_iload_n hx hb dX3_forgetIfChanged_50 rfl (lv_at hl 1 rfl) ?_
      refine lv_iconst (v := 5) hx hb dX3_forgetIfChanged_51 (by decide) ?_
      refine lv_icmp_gt (tgt := 68) hx hb dX3_forgetIfChanged_52 (by decide) (fun c5 => ?_) (fun c5 => ?_)
      · have hw := hw.1 c5
        exact hRet ⟨r3, A_words_28, A_listed_50⟩ H locs _ _ hw hP hD hS dX3_forgetIfChanged_68
      · have hw := hw.2 c5
        refine lv_aload_n hx hb dX3_forgetIfChanged_55 rfl (lv_at hl 0 rfl) ?_
        refine va_get (D := G) (ci := 3) (v := .ref q_t_listed) (C := RX3) (T := TX3) (N := 6) hx hb hts hkX3_forgetIfChanged_X3 hown hK hP 0 rfl rfl 4 (by decide) (hts (.fieldLink RX3 29 "NestReaders$Listing" "listed" "[Z") hfX3_forgetIfChanged_29) (fun _ h9 => h9) rfl dX3_forgetIfChanged_56 ?_
        refine lv_iload_n hx hb dX3_forgetIfChanged_59 rfl (lv_at hl 1 rfl) ?_
        refine lv_iconst (v := 0) hx hb dX3_forgetIfChanged_60 (by decide) ?_
        refine ms_zast hx hb hK hP hD hS 3 2 rfl rfl hw.1 dX3_forgetIfChanged_61 (fun g6 H locs eg6 hP hD hS => ?_)
        have hw := hw.2 g6 eg6
        have hP : va_P G vwCl [(q_t, .inr (3, [.ref q_t_reader, .ref q_t_row, .ref q_t_walk, .ref q_t_words, .ref q_t_listed, .int r3])), (q_t_reader, .inr (5, [.ref q_t_reader_ways, .int F_reader_states, .int F_reader_marks, .int F_reader_takes, .int F_reader_changes])), (q_t_words, .inl (cJ, 150, .inr (.inl A_words_28))), (q_t_listed, .inl (cZ, 6, .inl g6))] H := hP
        have hD : va_D A [(q_t, .inr (3, [.ref q_t_reader, .ref q_t_row, .ref q_t_walk, .ref q_t_words, .ref q_t_listed, .int r3])), (q_t_reader, .inr (5, [.ref q_t_reader_ways, .int F_reader_states, .int F_reader_marks, .int F_reader_takes, .int F_reader_changes])), (q_t_words, .inl (cJ, 150, .inr (.inl A_words_28))), (q_t_listed, .inl (cZ, 6, .inl g6))] := hD
        obtain ⟨x7, ex7⟩ : ∃ y : Int32, y = i50_1 + (1 : Int32) := ⟨_, rfl⟩
        have hw := hw x7 ex7
        refine lv_iinc (v := x7) (lv' := [(1, .int x7), (0, .ref q_t)]) hx hb dX3_forgetIfChanged_62 hl (k := 1) rfl (by rw [ex7]; rfl) (by decide) rfl (fun ls hl => ?_)
        refine lv_goto (tgt := 50) hx hb dX3_forgetIfChanged_65 (by decide) ?_
        exact hw H locs hP hD hS ls (lv_sub hl [1, 0] rfl)
    · have hw := hw.2 c4
      refine lv_aload_n hx hb dX3_forgetIfChanged_35 rfl (lv_at hl 0 rfl) ?_
      refine va_get (D := G) (ci := 3) (v := .ref q_t_words) (C := RX3) (T := TX3) (N := 6) hx hb hts hkX3_forgetIfChanged_X3 hown hK hP 0 rfl rfl 3 (by decide) (hts (.fieldLink RX3 25 "NestReaders$Listing" "words" "[J") hfX3_forgetIfChanged_25) (fun _ h9 => h9) rfl dX3_forgetIfChanged_36 ?_
      refine lv_iload_n hx hb dX3_forgetIfChanged_39 rfl (lv_at hl 1 rfl) ?_
      refine lv_lconst (v := 0) hx hb dX3_forgetIfChanged_40 (by decide) ?_
      refine ms_last hx hb hK hP hD hS 2 1 rfl rfl hw.1 dX3_forgetIfChanged_41 (fun g8 H locs eg8 hP hD hS => ?_)
      have hw := hw.2 g8 eg8
      have hP : va_P G vwCl [(q_t, .inr (3, [.ref q_t_reader, .ref q_t_row, .ref q_t_walk, .ref q_t_words, .ref q_t_listed, .int r3])), (q_t_reader, .inr (5, [.ref q_t_reader_ways, .int F_reader_states, .int F_reader_marks, .int F_reader_takes, .int F_reader_changes])), (q_t_words, .inl (cJ, 150, .inr (.inl g8))), (q_t_listed, .inl (cZ, 6, .inl A_listed))] H := hP
      have hD : va_D A [(q_t, .inr (3, [.ref q_t_reader, .ref q_t_row, .ref q_t_walk, .ref q_t_words, .ref q_t_listed, .int r3])), (q_t_reader, .inr (5, [.ref q_t_reader_ways, .int F_reader_states, .int F_reader_marks, .int F_reader_takes, .int F_reader_changes])), (q_t_words, .inl (cJ, 150, .inr (.inl g8))), (q_t_listed, .inl (cZ, 6, .inl A_listed))] := hD
      obtain ⟨x9, ex9⟩ : ∃ y : Int32, y = i28_1 + (1 : Int32) := ⟨_, rfl⟩
      have hw := hw x9 ex9
      refine lv_iinc (v := x9) (lv' := [(1, .int x9), (0, .ref q_t)]) hx hb dX3_forgetIfChanged_42 hl (k := 1) rfl (by rw [ex9]; rfl) (by decide) rfl (fun ls hl => ?_)
      refine lv_goto (tgt := 28) hx hb dX3_forgetIfChanged_45 (by decide) ?_
      exact hw H locs hP hD hS ls (lv_sub hl [1, 0] rfl)
  · have hw := hw.1 c2
    exact hRet ⟨F_seen, A_words, A_listed⟩ s.heap [] _ _ hw hP hD hS dX3_forgetIfChanged_14
def wX3_keep (p0 : Int32) (p1 : Int32) (A_words : Nat → Int64) (K : (Nat → Int64) → Prop) : Prop :=
  (vp_in p0 6 ∧ (∀ x1 : Int32, x1 = ((ms_beg p0.toNatClampNeg) + (p1 / (64 : Int32))) → ((x1 < (0 : Int32) → K A_words) ∧ (¬ x1 < (0 : Int32) → (((150 : Int32) ≤ x1 → K A_words) ∧ (¬ (150 : Int32) ≤ x1 → (vp_in x1 150 ∧ (∀ x4 : Int64, x4 = ((A_words x1.toNatClampNeg) ||| ((1 : Int64) <<< (((p1 - p1 / (64 : Int32) * (64 : Int32))).toInt64 &&& 63))) → (vp_in x1 150 ∧ (∀ g5 : Nat → Int64, g5 = vp_updL A_words x1.toNatClampNeg x4 → K g5))))))))))
abbrev rmX3_keep : Room := { frames := 0, cells := 0, slots := 0, locals := 0 }
theorem nd_X3_keep : yX3_keep.cls = RX3 ∧ yX3_keep.cls ≠ "java/lang/invoke/MethodHandle" ∧ yX3_keep.cls ≠ "java/lang/invoke/VarHandle" ∧ (parseMethodDescriptor yX3_keep.desc).map (fun d => d.parameters.length) = some 2 := by decide +kernel
theorem hfX3_keep_85 : (Cond.fieldLink RX3 85 "NestReaders$Listing" "BEGIN" "[I") ∈ wsX3_keep := List.mem_cons_of_mem _ m46_7
theorem hkX3_keep_X3 : ∀ w ∈ u_ws RX3 TX3 6, w ∈ wsX3_keep := fun w h => List.mem_cons_of_mem _ (inlX3 w h)
theorem hfX3_keep_25 : (Cond.fieldLink RX3 25 "NestReaders$Listing" "words" "[J") ∈ wsX3_keep := List.mem_cons_of_mem _ m8_11
set_option maxHeartbeats 4000000 in
set_option maxRecDepth 100000 in
theorem c_X3_keep (l : Launch) (G : va_G) (cI cJ cZ : ClassId) (adK adV : Nat → Nat) (qB : Nat) (q_t q_t_reader q_t_row q_t_walk q_t_words q_t_listed : Nat) (sz : Nat) (F_seen : Int32) (A_words : Nat → Int64) (p0 : Int32) (p1 : Int32) {K : (Nat → Int64) → Prop} (hw : wX3_keep p0 p1 A_words K) : Met l yX3_keep wsX3_keep rmX3_keep (ms_X (ms_K adK adV qB (va_A [(q_t, .inr (3, [.ref q_t_reader, .ref q_t_row, .ref q_t_walk, .ref q_t_words, .ref q_t_listed, .int F_seen])), (q_t_words, .inl (cJ, 150, .inr (.inl A_words)))] sz)) (ms_Pz G (ms_T cI cJ cZ) [(q_t, .inr (3, [.ref q_t_reader, .ref q_t_row, .ref q_t_walk, .ref q_t_words, .ref q_t_listed, .int F_seen])), (q_t_words, .inl (cJ, 150, .inr (.inl A_words)))] sz [.ref q_t, .int p0, .int p1])) (ms_Wv G (ms_T cI cJ cZ) (fun (u : (Nat → Int64)) => K u) (fun u : (Nat → Int64) => [(q_t, .inr (3, [.ref q_t_reader, .ref q_t_row, .ref q_t_walk, .ref q_t_words, .ref q_t_listed, .int F_seen])), (q_t_words, .inl (cJ, 150, .inr (.inl u)))]) (va_A [(q_t, .inr (3, [.ref q_t_reader, .ref q_t_row, .ref q_t_walk, .ref q_t_words, .ref q_t_listed, .int F_seen])), (q_t_words, .inl (cJ, 150, .inr (.inl A_words)))] sz)) 0 0 (va_A [(q_t, .inr (3, [.ref q_t_reader, .ref q_t_row, .ref q_t_walk, .ref q_t_words, .ref q_t_listed, .int F_seen])), (q_t_words, .inl (cJ, 150, .inr (.inl A_words)))] sz) := by
  refine ms_tXv (cc := cX3_keep) (maxL := 4) (by decide) rfl (Nat.le_of_ble_eq_true rfl) ?_
  intro p e s m args below meth c Q A hx hb hml hown hts hK hP hD hS hA hAi hsz hX hRet ls hl
  have hl : lv_has ls 4 [(0, .ref q_t), (1, .int p0), (2, .int p1)] := hl
  have hown : s.vm.findClass RX3 = some m.cls := hown
  have hX : ms_K adK adV qB A s := hX.narrow (fun q h => by rw [← hsz]; exact (hAi q).mp h)
  refine va_gets hx hb hX.2.2.2.1 hS hown (hts (.fieldLink RX3 85 "NestReaders$Listing" "BEGIN" "[I") hfX3_keep_85) (fun _ h9 => h9) dX3_keep_0 ?_
  refine lv_iload_n hx hb dX3_keep_3 rfl (lv_at hl 1 rfl) ?_
  refine va_ti hx hb hX.2.2.2.2.1 hS hw.1 (v := .int (ms_beg p0.toNatClampNeg)) rfl dX3_keep_4 ?_
  have hw := hw.2
  refine lv_iload_n hx hb dX3_keep_5 rfl (lv_at hl 2 rfl) ?_
  refine lv_bipush (v := (64)) hx hb dX3_keep_6 (by decide) ?_
  refine lv_idiv hx hb dX3_keep_8 (by decide) ?_
  refine lv_iadd hx hb dX3_keep_9 ?_
  refine lv_topi (fun x1 ex1 => ?_)
  have hw := hw x1 ex1
  refine lv_istore_n (lv' := [(3, .int x1), (0, .ref q_t), (1, .int p0), (2, .int p1)]) hx hb dX3_keep_10 rfl hl (by decide) rfl (fun ls hl => ?_)
  refine lv_iload_n hx hb dX3_keep_11 rfl (lv_at hl 0 rfl) ?_
  refine lv_if_lt (tgt := 37) hx hb dX3_keep_12 (by decide) (fun c2 => ?_) (fun c2 => ?_)
  · have hw := hw.1 c2
    exact hRet A_words s.heap [] _ _ hw hP hD hS dX3_keep_37
  · have hw := hw.2 c2
    refine lv_iload_n hx hb dX3_keep_15 rfl (lv_at hl 0 rfl) ?_
    refine lv_sipush (v := (150)) hx hb dX3_keep_16 (by decide) ?_
    refine lv_icmp_ge (tgt := 37) hx hb dX3_keep_19 (by decide) (fun c3 => ?_) (fun c3 => ?_)
    · have hw := hw.1 c3
      exact hRet A_words s.heap [] _ _ hw hP hD hS dX3_keep_37
    · have hw := hw.2 c3
      refine lv_aload_n hx hb dX3_keep_22 rfl (lv_at hl 1 rfl) ?_
      refine va_get (D := G) (ci := 3) (v := .ref q_t_words) (C := RX3) (T := TX3) (N := 6) hx hb hts hkX3_keep_X3 hown hK hP 0 rfl rfl 3 (by decide) (hts (.fieldLink RX3 25 "NestReaders$Listing" "words" "[J") hfX3_keep_25) (fun _ h9 => h9) rfl dX3_keep_23 ?_
      refine lv_iload_n hx hb dX3_keep_26 rfl (lv_at hl 0 rfl) ?_
      refine lv_dup2_11 hx hb dX3_keep_27 rfl rfl ?_
      refine va_lald (D := G) hx hb hK hP 1 1 rfl rfl hw.1 dX3_keep_28 ?_
      have hw := hw.2
      refine lv_lconst (v := 1) hx hb dX3_keep_29 (by decide) ?_
      refine lv_iload_n hx hb dX3_keep_30 rfl (lv_at hl 3 rfl) ?_
      refine lv_bipush (v := (64)) hx hb dX3_keep_31 (by decide) ?_
      refine lv_irem hx hb dX3_keep_33 (by decide) ?_
      refine lv_lshl hx hb dX3_keep_34 rfl ?_
      refine lv_lor hx hb dX3_keep_35 ?_
      refine lv_topl (fun x4 ex4 => ?_)
      have hw := hw x4 ex4
      refine ms_last hx hb hK hP hD hS 1 1 rfl rfl hw.1 dX3_keep_36 (fun g5 H locs eg5 hP hD hS => ?_)
      have hw := hw.2 g5 eg5
      have hP : va_P G vwCl [(q_t, .inr (3, [.ref q_t_reader, .ref q_t_row, .ref q_t_walk, .ref q_t_words, .ref q_t_listed, .int F_seen])), (q_t_words, .inl (cJ, 150, .inr (.inl g5)))] H := hP
      have hD : va_D A [(q_t, .inr (3, [.ref q_t_reader, .ref q_t_row, .ref q_t_walk, .ref q_t_words, .ref q_t_listed, .int F_seen])), (q_t_words, .inl (cJ, 150, .inr (.inl g5)))] := hD
      exact hRet g5 H locs _ _ hw hP hD hS dX3_keep_37
def wX3_placeOf_L5 (p0 : Int64) (K : Int32 → Prop) (E5 : Int32 → Int32 → Prop) (i5_3 : Int32) (i5_4 : Int32) : Prop :=
  ∀ P5 : Int32 → Int32 → Prop, (∀ (i5_3 : Int32) (i5_4 : Int32), (((64 : Int32) ≤ i5_4 → E5 i5_3 i5_4) ∧ (¬ (64 : Int32) ≤ i5_4 → (((lg_cmp ((p0 >>> ((i5_4).toInt64 &&& 63)) &&& (1 : Int64)) (0 : Int64)) = (0 : Int32) → (∀ x3 : Int32, x3 = i5_4 + (1 : Int32) → P5 i5_3 x3)) ∧ (¬ (lg_cmp ((p0 >>> ((i5_4).toInt64 &&& 63)) &&& (1 : Int64)) (0 : Int64)) = (0 : Int32) → ((i5_3 = (0 : Int32) → K i5_4) ∧ (¬ i5_3 = (0 : Int32) → (∀ x5 : Int32, x5 = i5_3 + (-1 : Int32) → (∀ x6 : Int32, x6 = i5_4 + (1 : Int32) → P5 x5 x6)))))))) → P5 i5_3 i5_4) → P5 i5_3 i5_4
def wX3_placeOf (p0 : Int64) (p1 : Int32) (K : Int32 → Prop) : Prop :=
  (wX3_placeOf_L5 p0 K (fun i5_3 i5_4 => K (-1 : Int32)) p1 (0 : Int32))
abbrev rmX3_placeOf : Room := { frames := 0, cells := 0, slots := 0, locals := 0 }
theorem nd_X3_placeOf : yX3_placeOf.cls ≠ "java/lang/invoke/MethodHandle" ∧ yX3_placeOf.cls ≠ "java/lang/invoke/VarHandle" ∧ (parseMethodDescriptor yX3_placeOf.desc).map (fun d => d.parameters.length) = some 2 := by decide +kernel
set_option maxHeartbeats 4000000 in
set_option maxRecDepth 100000 in
theorem c_X3_placeOf (l : Launch) (G : va_G) (cI cJ cZ : ClassId) (p0 : Int64) (p1 : Int32) {K : Int32 → Prop} (hw : wX3_placeOf p0 p1 K) : Met l yX3_placeOf wsX3_placeOf rmX3_placeOf (ms_P G (ms_T cI cJ cZ) [] [.long p0, .int p1]) (ms_Qi K) 0 0 ms_N := by
  refine ms_si (cc := cX3_placeOf) (maxL := 5) (ty := .int) (by decide) rfl (Nat.le_of_ble_eq_true rfl) ?_
  intro p e s m args below meth c Q hx hb hml hown hts hK hP hD hRet ls hl
  have hl : lv_has ls 5 [(0, .long p0), (2, .int p1)] := hl
  have hown : s.vm.findClass RX3 = some m.cls := hown
  refine lv_iload_n hx hb dX3_placeOf_0 rfl (lv_at hl 1 rfl) ?_
  refine lv_istore_n (lv' := [(3, .int p1), (0, .long p0), (2, .int p1)]) hx hb dX3_placeOf_1 rfl hl (by decide) rfl (fun ls hl => ?_)
  refine lv_iconst (v := 0) hx hb dX3_placeOf_2 (by decide) ?_
  refine lv_istore (lv' := [(4, .int (0 : Int32)), (3, .int p1), (0, .long p0), (2, .int p1)]) hx hb dX3_placeOf_3 hl (by decide) rfl (fun ls hl => ?_)
  refine hw (fun i5_3 i5_4 => ∀ ls : Array Slot, lv_has ls 5 [(0, .long p0), (3, .int i5_3), (4, .int i5_4)] → W p l e rmX3_placeOf s m args below meth c s.heap [] 0 0 Q (F0 m 5 ls [])) (fun i5_3 i5_4 hw ls hl => ?_) ls (lv_sub hl [2, 1, 0] rfl)
  refine lv_iload hx hb dX3_placeOf_5 (lv_at hl 2 rfl) ?_
  refine lv_bipush (v := (64)) hx hb dX3_placeOf_7 (by decide) ?_
  refine lv_icmp_ge (tgt := 39) hx hb dX3_placeOf_9 (by decide) (fun c1 => ?_) (fun c1 => ?_)
  · have hw := hw.1 c1
    refine lv_iconst (v := (-1)) hx hb dX3_placeOf_39 (by decide) ?_
    exact hRet (-1 : Int32) _ _ hw (vp_nar_int _) dX3_placeOf_40
  · have hw := hw.2 c1
    refine lv_lload_n hx hb dX3_placeOf_12 rfl (lv_at hl 0 rfl) ?_
    refine lv_iload hx hb dX3_placeOf_13 (lv_at hl 2 rfl) ?_
    refine lv_lshr hx hb dX3_placeOf_15 rfl ?_
    refine lv_lconst (v := 1) hx hb dX3_placeOf_16 (by decide) ?_
    refine lv_land hx hb dX3_placeOf_17 ?_
    refine lv_lconst (v := 0) hx hb dX3_placeOf_18 (by decide) ?_
    refine W.lcmp hx hb dX3_placeOf_19 ?_
    refine lv_if_eq (tgt := 33) hx hb dX3_placeOf_20 (by decide) (fun c2 => ?_) (fun c2 => ?_)
    · have hw := hw.1 c2
      obtain ⟨x3, ex3⟩ : ∃ y : Int32, y = i5_4 + (1 : Int32) := ⟨_, rfl⟩
      have hw := hw x3 ex3
      refine lv_iinc (v := x3) (lv' := [(4, .int x3), (0, .long p0), (3, .int i5_3)]) hx hb dX3_placeOf_33 hl (k := 2) rfl (by rw [ex3]; rfl) (by decide) rfl (fun ls hl => ?_)
      refine lv_goto (tgt := 5) hx hb dX3_placeOf_36 (by decide) ?_
      exact hw ls (lv_sub hl [1, 2, 0] rfl)
    · have hw := hw.2 c2
      refine lv_iload_n hx hb dX3_placeOf_23 rfl (lv_at hl 1 rfl) ?_
      refine lv_if_ne (tgt := 30) hx hb dX3_placeOf_24 (by decide) (fun c4 => ?_) (fun c4 => ?_)
      · have hw := hw.2 c4
        obtain ⟨x5, ex5⟩ : ∃ y : Int32, y = i5_3 + (-1 : Int32) := ⟨_, rfl⟩
        have hw := hw x5 ex5
        refine lv_iinc (v := x5) (lv' := [(3, .int x5), (0, .long p0), (4, .int i5_4)]) hx hb dX3_placeOf_30 hl (k := 1) rfl (by rw [ex5]; rfl) (by decide) rfl (fun ls hl => ?_)
        obtain ⟨x6, ex6⟩ : ∃ y : Int32, y = i5_4 + (1 : Int32) := ⟨_, rfl⟩
        have hw := hw x6 ex6
        refine lv_iinc (v := x6) (lv' := [(4, .int x6), (3, .int x5), (0, .long p0)]) hx hb dX3_placeOf_33 hl (k := 2) rfl (by rw [ex6]; rfl) (by decide) rfl (fun ls hl => ?_)
        refine lv_goto (tgt := 5) hx hb dX3_placeOf_36 (by decide) ?_
        exact hw ls (lv_sub hl [2, 1, 0] rfl)
      · have hw := hw.1 c4
        refine lv_iload hx hb dX3_placeOf_27 (lv_at hl 2 rfl) ?_
        exact hRet i5_4 _ _ hw (vp_nar_int _) dX3_placeOf_29
def wX3_grow_L52 (p1 : Int32) (p2 : Int32) (p3 : Int32) (F_p0_reader_marks : Int32) (F_p0_reader_takes : Int32) (A_p0_reader_ways : Nat → Int32) (F_p0_walk_same : Int32) (REC : Int32 → Int32 → Int32 → Int32 → Int32 → (Nat → Int32) → Int32 → (Nat → Int32) → (Nat → Int32) → Int32 → (Nat → Int32) → (Nat → Int32) → (Nat → Int64) → (Int32 → (Nat → Int32) → (Nat → Int32) → (Nat → Int32) → (Nat → Int32) → (Nat → Int64) → Prop) → Prop) (E52 : Int32 → Int32 → (Nat → Int32) → (Nat → Int32) → (Nat → Int32) → (Nat → Int32) → (Nat → Int64) → Prop) (i52_5 : Int32) (F_p0_row_size_52 : Int32) (A_p0_row_letters_52 : Nat → Int32) (A_p0_row_base_52 : Nat → Int32) (A_p0_walk_come_52 : Nat → Int32) (A_p0_walk_since_52 : Nat → Int32) (A_p0_words_52 : Nat → Int64) : Prop :=
  ∀ P52 : Int32 → Int32 → (Nat → Int32) → (Nat → Int32) → (Nat → Int32) → (Nat → Int32) → (Nat → Int64) → Prop, (∀ (i52_5 : Int32) (F_p0_row_size_52 : Int32) (A_p0_row_letters_52 : Nat → Int32) (A_p0_row_base_52 : Nat → Int32) (A_p0_walk_come_52 : Nat → Int32) (A_p0_walk_since_52 : Nat → Int32) (A_p0_words_52 : Nat → Int64), (((6 : Int32) ≤ i52_5 → E52 i52_5 F_p0_row_size_52 A_p0_row_letters_52 A_p0_row_base_52 A_p0_walk_come_52 A_p0_walk_since_52 A_p0_words_52) ∧ (¬ (6 : Int32) ≤ i52_5 → (wX6_cut p1 F_p0_row_size_52 (fun u6 => (wX6_append i52_5 u6 A_p0_row_letters_52 A_p0_row_base_52 (fun u7 u8 u9 => (wX9_step p1 F_p0_walk_same A_p0_walk_come_52 A_p0_walk_since_52 F_p0_reader_marks A_p0_reader_ways u7 u8 u9 (fun u10 u11 => (REC (p1 + (1 : Int32)) ((p2 * (6 : Int32)) + i52_5) p3 F_p0_reader_marks F_p0_reader_takes A_p0_reader_ways u7 u8 u9 F_p0_walk_same u10 u11 A_p0_words_52 (fun u12 u13 u14 u15 u16 u17 => (∀ x18 : Int32, x18 = i52_5 + (1 : Int32) → P52 x18 u12 u13 u14 u15 u16 u17))))))))))) → P52 i52_5 F_p0_row_size_52 A_p0_row_letters_52 A_p0_row_base_52 A_p0_walk_come_52 A_p0_walk_since_52 A_p0_words_52) → P52 i52_5 F_p0_row_size_52 A_p0_row_letters_52 A_p0_row_base_52 A_p0_walk_come_52 A_p0_walk_since_52 A_p0_words_52
def wX3_grow_B (REC : Int32 → Int32 → Int32 → Int32 → Int32 → (Nat → Int32) → Int32 → (Nat → Int32) → (Nat → Int32) → Int32 → (Nat → Int32) → (Nat → Int32) → (Nat → Int64) → (Int32 → (Nat → Int32) → (Nat → Int32) → (Nat → Int32) → (Nat → Int32) → (Nat → Int64) → Prop) → Prop) (p1 : Int32) (p2 : Int32) (p3 : Int32) (F_p0_reader_marks : Int32) (F_p0_reader_takes : Int32) (A_p0_reader_ways : Nat → Int32) (F_p0_row_size : Int32) (A_p0_row_letters : Nat → Int32) (A_p0_row_base : Nat → Int32) (F_p0_walk_same : Int32) (A_p0_walk_come : Nat → Int32) (A_p0_walk_since : Nat → Int32) (A_p0_words : Nat → Int64) (K : Int32 → (Nat → Int32) → (Nat → Int32) → (Nat → Int32) → (Nat → Int32) → (Nat → Int64) → Prop) : Prop :=
  (wX9_comeAt p1 A_p0_walk_come (fun r1 => (∀ J33 : (Nat → Int64) → Prop, (∀ (A_p0_words_j33 : Nat → Int64), ((p3 ≤ p1 → K F_p0_row_size A_p0_row_letters A_p0_row_base A_p0_walk_come A_p0_walk_since A_p0_words_j33) ∧ (¬ p3 ≤ p1 → (((5 : Int32) ≤ p1 → K F_p0_row_size A_p0_row_letters A_p0_row_base A_p0_walk_come A_p0_walk_since A_p0_words_j33) ∧ (¬ (5 : Int32) ≤ p1 → ((r1 = (0 : Int32) → K F_p0_row_size A_p0_row_letters A_p0_row_base A_p0_walk_come A_p0_walk_since A_p0_words_j33) ∧ (¬ r1 = (0 : Int32) → (wX3_grow_L52 p1 p2 p3 F_p0_reader_marks F_p0_reader_takes A_p0_reader_ways F_p0_walk_same REC (fun i52_5 F_p0_row_size_52 A_p0_row_letters_52 A_p0_row_base_52 A_p0_walk_come_52 A_p0_walk_since_52 A_p0_words_52 => K F_p0_row_size_52 A_p0_row_letters_52 A_p0_row_base_52 A_p0_walk_come_52 A_p0_walk_since_52 A_p0_words_52) (0 : Int32) F_p0_row_size A_p0_row_letters A_p0_row_base A_p0_walk_come A_p0_walk_since A_p0_words_j33))))))) → J33 A_p0_words_j33) → ((p1 = p3 → (wX5_takesAny r1 F_p0_reader_takes (fun r20 => ((r20 = (0 : Int32) → J33 A_p0_words) ∧ (¬ r20 = (0 : Int32) → (wX3_keep p3 p2 A_p0_words (fun u22 => J33 u22))))))) ∧ (¬ p1 = p3 → J33 A_p0_words)))))
def wX3_grow : Nat → Int32 → Int32 → Int32 → Int32 → Int32 → (Nat → Int32) → Int32 → (Nat → Int32) → (Nat → Int32) → Int32 → (Nat → Int32) → (Nat → Int32) → (Nat → Int64) → (Int32 → (Nat → Int32) → (Nat → Int32) → (Nat → Int32) → (Nat → Int32) → (Nat → Int64) → Prop) → Prop
  | 0 => fun _ _ _ _ _ _ _ _ _ _ _ _ _ _ => False
  | n + 1 => wX3_grow_B (wX3_grow n)
abbrev rmX3_grow (n : Nat) : Room := { frames := n + 4, cells := 0, slots := 0, locals := n * 25 + 93 }
theorem nd_X3_grow : yX3_grow.cls ≠ "java/lang/invoke/MethodHandle" ∧ yX3_grow.cls ≠ "java/lang/invoke/VarHandle" ∧ (parseMethodDescriptor yX3_grow.desc).map (fun d => d.parameters.length) = some 4 := by decide +kernel
theorem hkX3_grow_X3 : ∀ w ∈ u_ws RX3 TX3 6, w ∈ wsX3_grow := fun w h => List.mem_cons_of_mem _ (inlX3 w h)
theorem hfX3_grow_21 : (Cond.fieldLink RX3 21 "NestReaders$Listing" "walk" "LNestReaders$Walk;") ∈ wsX3_grow := List.mem_cons_of_mem _ m8_10
theorem hfX3_grow_37 : (Cond.fieldLink RX3 37 "NestReaders$Listing" "reader" "LNestReaders$Reader;") ∈ wsX3_grow := List.mem_cons_of_mem _ m8_15
theorem hfX3_grow_12 : (Cond.fieldLink RX3 12 "NestReaders$Listing" "row" "LNestReaders$Row;") ∈ wsX3_grow := List.mem_cons_of_mem _ m8_8
set_option maxHeartbeats 4000000 in
set_option maxRecDepth 100000 in
theorem c_X3_grow (l : Launch) (G : va_G) (cI cJ cZ : ClassId) (adK adV : Nat → Nat) (qB : Nat) : ∀ (n : Nat) (q_p0 q_p0_reader q_p0_row q_p0_walk q_p0_words q_p0_listed q_p0_reader_ways q_p0_row_letters q_p0_row_base q_p0_walk_come q_p0_walk_since : Nat) (sz : Nat) (F_p0_seen : Int32) (F_p0_reader_states : Int32) (F_p0_reader_marks : Int32) (F_p0_reader_takes : Int32) (F_p0_reader_changes : Int32) (A_p0_reader_ways : Nat → Int32) (F_p0_row_size : Int32) (A_p0_row_letters : Nat → Int32) (A_p0_row_base : Nat → Int32) (F_p0_walk_same : Int32) (A_p0_walk_come : Nat → Int32) (A_p0_walk_since : Nat → Int32) (A_p0_words : Nat → Int64) (p1 : Int32) (p2 : Int32) (p3 : Int32) {K : Int32 → (Nat → Int32) → (Nat → Int32) → (Nat → Int32) → (Nat → Int32) → (Nat → Int64) → Prop} (hw : wX3_grow n p1 p2 p3 F_p0_reader_marks F_p0_reader_takes A_p0_reader_ways F_p0_row_size A_p0_row_letters A_p0_row_base F_p0_walk_same A_p0_walk_come A_p0_walk_since A_p0_words K), Met l yX3_grow wsX3_grow (rmX3_grow n) (ms_X (ms_K adK adV qB (va_A [(q_p0, .inr (3, [.ref q_p0_reader, .ref q_p0_row, .ref q_p0_walk, .ref q_p0_words, .ref q_p0_listed, .int F_p0_seen])), (q_p0_reader, .inr (5, [.ref q_p0_reader_ways, .int F_p0_reader_states, .int F_p0_reader_marks, .int F_p0_reader_takes, .int F_p0_reader_changes])), (q_p0_reader_ways, .inl (cI, 18, .inl A_p0_reader_ways)), (q_p0_row, .inr (6, [.ref q_p0_row_letters, .ref q_p0_row_base, .int F_p0_row_size])), (q_p0_row_letters, .inl (cI, 24, .inl A_p0_row_letters)), (q_p0_row_base, .inl (cI, 25, .inl A_p0_row_base)), (q_p0_walk, .inr (9, [.ref q_p0_walk_come, .ref q_p0_walk_since, .int F_p0_walk_same])), (q_p0_walk_come, .inl (cI, 25, .inl A_p0_walk_come)), (q_p0_walk_since, .inl (cI, 25, .inl A_p0_walk_since)), (q_p0_words, .inl (cJ, 150, .inr (.inl A_p0_words)))] sz)) (ms_Pz G (ms_T cI cJ cZ) [(q_p0, .inr (3, [.ref q_p0_reader, .ref q_p0_row, .ref q_p0_walk, .ref q_p0_words, .ref q_p0_listed, .int F_p0_seen])), (q_p0_reader, .inr (5, [.ref q_p0_reader_ways, .int F_p0_reader_states, .int F_p0_reader_marks, .int F_p0_reader_takes, .int F_p0_reader_changes])), (q_p0_reader_ways, .inl (cI, 18, .inl A_p0_reader_ways)), (q_p0_row, .inr (6, [.ref q_p0_row_letters, .ref q_p0_row_base, .int F_p0_row_size])), (q_p0_row_letters, .inl (cI, 24, .inl A_p0_row_letters)), (q_p0_row_base, .inl (cI, 25, .inl A_p0_row_base)), (q_p0_walk, .inr (9, [.ref q_p0_walk_come, .ref q_p0_walk_since, .int F_p0_walk_same])), (q_p0_walk_come, .inl (cI, 25, .inl A_p0_walk_come)), (q_p0_walk_since, .inl (cI, 25, .inl A_p0_walk_since)), (q_p0_words, .inl (cJ, 150, .inr (.inl A_p0_words)))] sz [.ref q_p0, .int p1, .int p2, .int p3])) (ms_Wv G (ms_T cI cJ cZ) (fun (u : Int32 × (Nat → Int32) × (Nat → Int32) × (Nat → Int32) × (Nat → Int32) × (Nat → Int64)) => K u.1 u.2.1 u.2.2.1 u.2.2.2.1 u.2.2.2.2.1 u.2.2.2.2.2) (fun u : Int32 × (Nat → Int32) × (Nat → Int32) × (Nat → Int32) × (Nat → Int32) × (Nat → Int64) => [(q_p0, .inr (3, [.ref q_p0_reader, .ref q_p0_row, .ref q_p0_walk, .ref q_p0_words, .ref q_p0_listed, .int F_p0_seen])), (q_p0_reader, .inr (5, [.ref q_p0_reader_ways, .int F_p0_reader_states, .int F_p0_reader_marks, .int F_p0_reader_takes, .int F_p0_reader_changes])), (q_p0_reader_ways, .inl (cI, 18, .inl A_p0_reader_ways)), (q_p0_row, .inr (6, [.ref q_p0_row_letters, .ref q_p0_row_base, .int u.1])), (q_p0_row_letters, .inl (cI, 24, .inl u.2.1)), (q_p0_row_base, .inl (cI, 25, .inl u.2.2.1)), (q_p0_walk, .inr (9, [.ref q_p0_walk_come, .ref q_p0_walk_since, .int F_p0_walk_same])), (q_p0_walk_come, .inl (cI, 25, .inl u.2.2.2.1)), (q_p0_walk_since, .inl (cI, 25, .inl u.2.2.2.2.1)), (q_p0_words, .inl (cJ, 150, .inr (.inl u.2.2.2.2.2)))]) (va_A [(q_p0, .inr (3, [.ref q_p0_reader, .ref q_p0_row, .ref q_p0_walk, .ref q_p0_words, .ref q_p0_listed, .int F_p0_seen])), (q_p0_reader, .inr (5, [.ref q_p0_reader_ways, .int F_p0_reader_states, .int F_p0_reader_marks, .int F_p0_reader_takes, .int F_p0_reader_changes])), (q_p0_reader_ways, .inl (cI, 18, .inl A_p0_reader_ways)), (q_p0_row, .inr (6, [.ref q_p0_row_letters, .ref q_p0_row_base, .int F_p0_row_size])), (q_p0_row_letters, .inl (cI, 24, .inl A_p0_row_letters)), (q_p0_row_base, .inl (cI, 25, .inl A_p0_row_base)), (q_p0_walk, .inr (9, [.ref q_p0_walk_come, .ref q_p0_walk_since, .int F_p0_walk_same])), (q_p0_walk_come, .inl (cI, 25, .inl A_p0_walk_come)), (q_p0_walk_since, .inl (cI, 25, .inl A_p0_walk_since)), (q_p0_words, .inl (cJ, 150, .inr (.inl A_p0_words)))] sz)) 0 0 (va_A [(q_p0, .inr (3, [.ref q_p0_reader, .ref q_p0_row, .ref q_p0_walk, .ref q_p0_words, .ref q_p0_listed, .int F_p0_seen])), (q_p0_reader, .inr (5, [.ref q_p0_reader_ways, .int F_p0_reader_states, .int F_p0_reader_marks, .int F_p0_reader_takes, .int F_p0_reader_changes])), (q_p0_reader_ways, .inl (cI, 18, .inl A_p0_reader_ways)), (q_p0_row, .inr (6, [.ref q_p0_row_letters, .ref q_p0_row_base, .int F_p0_row_size])), (q_p0_row_letters, .inl (cI, 24, .inl A_p0_row_letters)), (q_p0_row_base, .inl (cI, 25, .inl A_p0_row_base)), (q_p0_walk, .inr (9, [.ref q_p0_walk_come, .ref q_p0_walk_since, .int F_p0_walk_same])), (q_p0_walk_come, .inl (cI, 25, .inl A_p0_walk_come)), (q_p0_walk_since, .inl (cI, 25, .inl A_p0_walk_since)), (q_p0_words, .inl (cJ, 150, .inr (.inl A_p0_words)))] sz) := by
  intro n
  induction n with
  | zero => intro q_p0 q_p0_reader q_p0_row q_p0_walk q_p0_words q_p0_listed q_p0_reader_ways q_p0_row_letters q_p0_row_base q_p0_walk_come q_p0_walk_since sz F_p0_seen F_p0_reader_states F_p0_reader_marks F_p0_reader_takes F_p0_reader_changes A_p0_reader_ways F_p0_row_size A_p0_row_letters A_p0_row_base F_p0_walk_same A_p0_walk_come A_p0_walk_since A_p0_words p1 p2 p3 K hw; exact hw.elim
  | succ n ih =>
  intro q_p0 q_p0_reader q_p0_row q_p0_walk q_p0_words q_p0_listed q_p0_reader_ways q_p0_row_letters q_p0_row_base q_p0_walk_come q_p0_walk_since sz F_p0_seen F_p0_reader_states F_p0_reader_marks F_p0_reader_takes F_p0_reader_changes A_p0_reader_ways F_p0_row_size A_p0_row_letters A_p0_row_base F_p0_walk_same A_p0_walk_come A_p0_walk_since A_p0_words p1 p2 p3 K hw
  have hw : wX3_grow_B (wX3_grow n) p1 p2 p3 F_p0_reader_marks F_p0_reader_takes A_p0_reader_ways F_p0_row_size A_p0_row_letters A_p0_row_base F_p0_walk_same A_p0_walk_come A_p0_walk_since A_p0_words K := hw
  refine ms_tXv (cc := cX3_grow) (maxL := 6) (by decide) rfl (Nat.le_of_ble_eq_true rfl) ?_
  intro p e s m args below meth c Q A hx hb hml hown hts hK hP hD hS hA hAi hsz hX hRet ls hl
  have hl : lv_has ls 6 [(0, .ref q_p0), (1, .int p1), (2, .int p2), (3, .int p3)] := hl
  have hown : s.vm.findClass RX3 = some m.cls := hown
  have hX : ms_K adK adV qB A s := hX.narrow (fun q h => by rw [← hsz]; exact (hAi q).mp h)
  refine lv_aload_n hx hb dX3_grow_0 rfl (lv_at hl 0 rfl) ?_
  refine va_get (D := G) (ci := 3) (v := .ref q_p0_walk) (C := RX3) (T := TX3) (N := 6) hx hb hts hkX3_grow_X3 hown hK hP 0 rfl rfl 2 (by decide) (hts (.fieldLink RX3 21 "NestReaders$Listing" "walk" "LNestReaders$Walk;") hfX3_grow_21) (fun _ h9 => h9) rfl dX3_grow_1 ?_
  refine lv_iload_n hx hb dX3_grow_4 rfl (lv_at hl 1 rfl) ?_
  refine ms_cVi ⟨hx, hb, hml, hown, hts⟩ hK hP hD (c_X9_comeAt l G cI cJ cZ q_p0_walk q_p0_walk_come q_p0_walk_since F_p0_walk_same A_p0_walk_come p1 hw) gX3_grow_X9_comeAt rfl nd_X9_comeAt (ci := 9) rfl rfl rfl ⟨rfl, rfl⟩ rfl ⟨by dsimp only [rmX3_grow, rmX9_comeAt]; omega, by dsimp only [rmX3_grow, rmX9_comeAt]; omega⟩ hl.1 (rest := []) rfl (Nat.le_of_ble_eq_true rfl)  [6, 7] rfl rfl dX3_grow_5 (fun r1 hw => ?_)
  refine lv_istore (lv' := [(4, .int r1), (0, .ref q_p0), (1, .int p1), (2, .int p2), (3, .int p3)]) hx hb dX3_grow_8 hl (by decide) rfl (fun ls hl => ?_)
  refine lv_iload_n hx hb dX3_grow_10 rfl (lv_at hl 2 rfl) ?_
  refine lv_iload_n hx hb dX3_grow_11 rfl (lv_at hl 4 rfl) ?_
  have hw := hw (fun A_p0_words_j33 => ∀ (H : Heap) (locs : List Loc), va_P G vwCl [(q_p0, .inr (3, [.ref q_p0_reader, .ref q_p0_row, .ref q_p0_walk, .ref q_p0_words, .ref q_p0_listed, .int F_p0_seen])), (q_p0_reader, .inr (5, [.ref q_p0_reader_ways, .int F_p0_reader_states, .int F_p0_reader_marks, .int F_p0_reader_takes, .int F_p0_reader_changes])), (q_p0_reader_ways, .inl (cI, 18, .inl A_p0_reader_ways)), (q_p0_row, .inr (6, [.ref q_p0_row_letters, .ref q_p0_row_base, .int F_p0_row_size])), (q_p0_row_letters, .inl (cI, 24, .inl A_p0_row_letters)), (q_p0_row_base, .inl (cI, 25, .inl A_p0_row_base)), (q_p0_walk, .inr (9, [.ref q_p0_walk_come, .ref q_p0_walk_since, .int F_p0_walk_same])), (q_p0_walk_come, .inl (cI, 25, .inl A_p0_walk_come)), (q_p0_walk_since, .inl (cI, 25, .inl A_p0_walk_since)), (q_p0_words, .inl (cJ, 150, .inr (.inl A_p0_words_j33)))] H → va_D A [(q_p0, .inr (3, [.ref q_p0_reader, .ref q_p0_row, .ref q_p0_walk, .ref q_p0_words, .ref q_p0_listed, .int F_p0_seen])), (q_p0_reader, .inr (5, [.ref q_p0_reader_ways, .int F_p0_reader_states, .int F_p0_reader_marks, .int F_p0_reader_takes, .int F_p0_reader_changes])), (q_p0_reader_ways, .inl (cI, 18, .inl A_p0_reader_ways)), (q_p0_row, .inr (6, [.ref q_p0_row_letters, .ref q_p0_row_base, .int F_p0_row_size])), (q_p0_row_letters, .inl (cI, 24, .inl A_p0_row_letters)), (q_p0_row_base, .inl (cI, 25, .inl A_p0_row_base)), (q_p0_walk, .inr (9, [.ref q_p0_walk_come, .ref q_p0_walk_since, .int F_p0_walk_same])), (q_p0_walk_come, .inl (cI, 25, .inl A_p0_walk_come)), (q_p0_walk_since, .inl (cI, 25, .inl A_p0_walk_since)), (q_p0_words, .inl (cJ, 150, .inr (.inl A_p0_words_j33)))] → va_S A s.heap H locs → ∀ ls : Array Slot, lv_has ls 6 [(0, .ref q_p0), (1, .int p1), (2, .int p2), (3, .int p3), (4, .int r1)] → W p l e (rmX3_grow (n + 1)) s m args below meth c H locs 0 0 Q (F0 m 33 ls [])) (fun A_p0_words_j33 hw H locs hP hD hS ls hl => by
    refine lv_iload_n hx hb dX3_grow_33 rfl (lv_at hl 1 rfl) ?_
    refine lv_iload_n hx hb dX3_grow_34 rfl (lv_at hl 3 rfl) ?_
    refine lv_icmp_ge (tgt := 48) hx hb dX3_grow_35 (by decide) (fun c2 => ?_) (fun c2 => ?_)
    · have hw := hw.1 c2
      exact hRet ⟨F_p0_row_size, A_p0_row_letters, A_p0_row_base, A_p0_walk_come, A_p0_walk_since, A_p0_words_j33⟩ H locs _ _ hw hP hD hS dX3_grow_48
    · have hw := hw.2 c2
      refine lv_iload_n hx hb dX3_grow_38 rfl (lv_at hl 1 rfl) ?_
      refine lv_iconst (v := 5) hx hb dX3_grow_39 (by decide) ?_
      refine lv_icmp_ge (tgt := 48) hx hb dX3_grow_40 (by decide) (fun c3 => ?_) (fun c3 => ?_)
      · have hw := hw.1 c3
        exact hRet ⟨F_p0_row_size, A_p0_row_letters, A_p0_row_base, A_p0_walk_come, A_p0_walk_since, A_p0_words_j33⟩ H locs _ _ hw hP hD hS dX3_grow_48
      · have hw := hw.2 c3
        refine lv_iload hx hb dX3_grow_43 (lv_at hl 4 rfl) ?_
        refine lv_if_ne (tgt := 49) hx hb dX3_grow_45 (by decide) (fun c4 => ?_) (fun c4 => ?_)
        · have hw := hw.2 c4
          refine lv_iconst (v := 0) hx hb dX3_grow_49 (by decide) ?_
          refine lv_istore (lv' := [(5, .int (0 : Int32)), (0, .ref q_p0), (1, .int p1), (2, .int p2), (3, .int p3), (4, .int r1)]) hx hb dX3_grow_50 hl (by decide) rfl (fun ls hl => ?_)
          refine hw (fun i52_5 F_p0_row_size_52 A_p0_row_letters_52 A_p0_row_base_52 A_p0_walk_come_52 A_p0_walk_since_52 A_p0_words_52 => ∀ (H : Heap) (locs : List Loc), va_P G vwCl [(q_p0, .inr (3, [.ref q_p0_reader, .ref q_p0_row, .ref q_p0_walk, .ref q_p0_words, .ref q_p0_listed, .int F_p0_seen])), (q_p0_reader, .inr (5, [.ref q_p0_reader_ways, .int F_p0_reader_states, .int F_p0_reader_marks, .int F_p0_reader_takes, .int F_p0_reader_changes])), (q_p0_reader_ways, .inl (cI, 18, .inl A_p0_reader_ways)), (q_p0_row, .inr (6, [.ref q_p0_row_letters, .ref q_p0_row_base, .int F_p0_row_size_52])), (q_p0_row_letters, .inl (cI, 24, .inl A_p0_row_letters_52)), (q_p0_row_base, .inl (cI, 25, .inl A_p0_row_base_52)), (q_p0_walk, .inr (9, [.ref q_p0_walk_come, .ref q_p0_walk_since, .int F_p0_walk_same])), (q_p0_walk_come, .inl (cI, 25, .inl A_p0_walk_come_52)), (q_p0_walk_since, .inl (cI, 25, .inl A_p0_walk_since_52)), (q_p0_words, .inl (cJ, 150, .inr (.inl A_p0_words_52)))] H → va_D A [(q_p0, .inr (3, [.ref q_p0_reader, .ref q_p0_row, .ref q_p0_walk, .ref q_p0_words, .ref q_p0_listed, .int F_p0_seen])), (q_p0_reader, .inr (5, [.ref q_p0_reader_ways, .int F_p0_reader_states, .int F_p0_reader_marks, .int F_p0_reader_takes, .int F_p0_reader_changes])), (q_p0_reader_ways, .inl (cI, 18, .inl A_p0_reader_ways)), (q_p0_row, .inr (6, [.ref q_p0_row_letters, .ref q_p0_row_base, .int F_p0_row_size_52])), (q_p0_row_letters, .inl (cI, 24, .inl A_p0_row_letters_52)), (q_p0_row_base, .inl (cI, 25, .inl A_p0_row_base_52)), (q_p0_walk, .inr (9, [.ref q_p0_walk_come, .ref q_p0_walk_since, .int F_p0_walk_same])), (q_p0_walk_come, .inl (cI, 25, .inl A_p0_walk_come_52)), (q_p0_walk_since, .inl (cI, 25, .inl A_p0_walk_since_52)), (q_p0_words, .inl (cJ, 150, .inr (.inl A_p0_words_52)))] → va_S A s.heap H locs → ∀ ls : Array Slot, lv_has ls 6 [(0, .ref q_p0), (1, .int p1), (2, .int p2), (3, .int p3), (5, .int i52_5)] → W p l e (rmX3_grow (n + 1)) s m args below meth c H locs 0 0 Q (F0 m 52 ls [])) (fun i52_5 F_p0_row_size_52 A_p0_row_letters_52 A_p0_row_base_52 A_p0_walk_come_52 A_p0_walk_since_52 A_p0_words_52 hw H locs hP hD hS ls hl => ?_) H locs hP hD hS ls (lv_sub hl [1, 2, 3, 4, 0] rfl)
          refine lv_iload hx hb dX3_grow_52 (lv_at hl 4 rfl) ?_
          refine lv_bipush (v := (6)) hx hb dX3_grow_54 (by decide) ?_
          refine lv_icmp_ge (tgt := 113) hx hb dX3_grow_56 (by decide) (fun c5 => ?_) (fun c5 => ?_)
          · have hw := hw.1 c5
            exact hRet ⟨F_p0_row_size_52, A_p0_row_letters_52, A_p0_row_base_52, A_p0_walk_come_52, A_p0_walk_since_52, A_p0_words_52⟩ H locs _ _ hw hP hD hS dX3_grow_113
          · have hw := hw.2 c5
            refine lv_aload_n hx hb dX3_grow_59 rfl (lv_at hl 0 rfl) ?_
            refine va_get (D := G) (ci := 3) (v := .ref q_p0_row) (C := RX3) (T := TX3) (N := 6) hx hb hts hkX3_grow_X3 hown hK hP 0 rfl rfl 1 (by decide) (hts (.fieldLink RX3 12 "NestReaders$Listing" "row" "LNestReaders$Row;") hfX3_grow_12) (fun _ h9 => h9) rfl dX3_grow_60 ?_
            refine lv_iload_n hx hb dX3_grow_63 rfl (lv_at hl 1 rfl) ?_
            refine ms_mVv (wr := [(q_p0, .inr (3, [.ref q_p0_reader, .ref q_p0_row, .ref q_p0_walk, .ref q_p0_words, .ref q_p0_listed, .int F_p0_seen])), (q_p0_reader, .inr (5, [.ref q_p0_reader_ways, .int F_p0_reader_states, .int F_p0_reader_marks, .int F_p0_reader_takes, .int F_p0_reader_changes])), (q_p0_reader_ways, .inl (cI, 18, .inl A_p0_reader_ways)), (q_p0_row_letters, .inl (cI, 24, .inl A_p0_row_letters_52)), (q_p0_row_base, .inl (cI, 25, .inl A_p0_row_base_52)), (q_p0_walk, .inr (9, [.ref q_p0_walk_come, .ref q_p0_walk_since, .int F_p0_walk_same])), (q_p0_walk_come, .inl (cI, 25, .inl A_p0_walk_come_52)), (q_p0_walk_since, .inl (cI, 25, .inl A_p0_walk_since_52)), (q_p0_words, .inl (cJ, 150, .inr (.inl A_p0_words_52)))]) ⟨hx, hb, hml, hown, hts⟩ hK hP hD (c_X6_cut l G cI cJ cZ q_p0_row q_p0_row_letters q_p0_row_base H.size F_p0_row_size_52 p1 hw) gX3_grow_X6_cut rfl nd_X6_cut (ci := 6) rfl rfl rfl ⟨rfl, rfl⟩ rfl ⟨by dsimp only [rmX3_grow, rmX6_cut]; omega, by dsimp only [rmX3_grow, rmX6_cut]; omega⟩ hl.1 (rest := []) rfl (Nat.le_of_ble_eq_true rfl)  hS hA [3] [0, 1, 2, 4, 5, 6, 7, 8, 9] rfl rfl rfl (by decide) rfl dX3_grow_64 (fun u H locs hw hP hD hS => ?_)
            obtain ⟨u6, rfl⟩ : ∃ z, z = u := ⟨_, rfl⟩
            obtain ⟨hP, hD⟩ : ms_PD G A [(q_p0, .inr (3, [.ref q_p0_reader, .ref q_p0_row, .ref q_p0_walk, .ref q_p0_words, .ref q_p0_listed, .int F_p0_seen])), (q_p0_reader, .inr (5, [.ref q_p0_reader_ways, .int F_p0_reader_states, .int F_p0_reader_marks, .int F_p0_reader_takes, .int F_p0_reader_changes])), (q_p0_reader_ways, .inl (cI, 18, .inl A_p0_reader_ways)), (q_p0_row, .inr (6, [.ref q_p0_row_letters, .ref q_p0_row_base, .int u6])), (q_p0_row_letters, .inl (cI, 24, .inl A_p0_row_letters_52)), (q_p0_row_base, .inl (cI, 25, .inl A_p0_row_base_52)), (q_p0_walk, .inr (9, [.ref q_p0_walk_come, .ref q_p0_walk_since, .int F_p0_walk_same])), (q_p0_walk_come, .inl (cI, 25, .inl A_p0_walk_come_52)), (q_p0_walk_since, .inl (cI, 25, .inl A_p0_walk_since_52)), (q_p0_words, .inl (cJ, 150, .inr (.inl A_p0_words_52)))] H := ms_PDsub hP hD [0, 1, 2, 9, 3, 4, 5, 6, 7, 8] (by decide +kernel) rfl
            refine lv_aload_n hx hb dX3_grow_67 rfl (lv_at hl 0 rfl) ?_
            refine va_get (D := G) (ci := 3) (v := .ref q_p0_row) (C := RX3) (T := TX3) (N := 6) hx hb hts hkX3_grow_X3 hown hK hP 0 rfl rfl 1 (by decide) (hts (.fieldLink RX3 12 "NestReaders$Listing" "row" "LNestReaders$Row;") hfX3_grow_12) (fun _ h9 => h9) rfl dX3_grow_68 ?_
            refine lv_iload hx hb dX3_grow_71 (lv_at hl 4 rfl) ?_
            refine ms_mVv (wr := [(q_p0, .inr (3, [.ref q_p0_reader, .ref q_p0_row, .ref q_p0_walk, .ref q_p0_words, .ref q_p0_listed, .int F_p0_seen])), (q_p0_reader, .inr (5, [.ref q_p0_reader_ways, .int F_p0_reader_states, .int F_p0_reader_marks, .int F_p0_reader_takes, .int F_p0_reader_changes])), (q_p0_reader_ways, .inl (cI, 18, .inl A_p0_reader_ways)), (q_p0_walk, .inr (9, [.ref q_p0_walk_come, .ref q_p0_walk_since, .int F_p0_walk_same])), (q_p0_walk_come, .inl (cI, 25, .inl A_p0_walk_come_52)), (q_p0_walk_since, .inl (cI, 25, .inl A_p0_walk_since_52)), (q_p0_words, .inl (cJ, 150, .inr (.inl A_p0_words_52)))]) ⟨hx, hb, hml, hown, hts⟩ hK hP hD (c_X6_append l G cI cJ cZ q_p0_row q_p0_row_letters q_p0_row_base H.size u6 A_p0_row_letters_52 A_p0_row_base_52 i52_5 hw) gX3_grow_X6_append rfl nd_X6_append (ci := 6) rfl rfl rfl ⟨rfl, rfl⟩ rfl ⟨by dsimp only [rmX3_grow, rmX6_append]; omega, by dsimp only [rmX3_grow, rmX6_append]; omega⟩ hl.1 (rest := []) rfl (Nat.le_of_ble_eq_true rfl)  hS hA [3, 4, 5] [0, 1, 2, 6, 7, 8, 9] rfl rfl rfl (by decide) rfl dX3_grow_73 (fun u H locs hw hP hD hS => ?_)
            obtain ⟨u7, u8, u9⟩ := u
            obtain ⟨hP, hD⟩ : ms_PD G A [(q_p0, .inr (3, [.ref q_p0_reader, .ref q_p0_row, .ref q_p0_walk, .ref q_p0_words, .ref q_p0_listed, .int F_p0_seen])), (q_p0_reader, .inr (5, [.ref q_p0_reader_ways, .int F_p0_reader_states, .int F_p0_reader_marks, .int F_p0_reader_takes, .int F_p0_reader_changes])), (q_p0_reader_ways, .inl (cI, 18, .inl A_p0_reader_ways)), (q_p0_row, .inr (6, [.ref q_p0_row_letters, .ref q_p0_row_base, .int u7])), (q_p0_row_letters, .inl (cI, 24, .inl u8)), (q_p0_row_base, .inl (cI, 25, .inl u9)), (q_p0_walk, .inr (9, [.ref q_p0_walk_come, .ref q_p0_walk_since, .int F_p0_walk_same])), (q_p0_walk_come, .inl (cI, 25, .inl A_p0_walk_come_52)), (q_p0_walk_since, .inl (cI, 25, .inl A_p0_walk_since_52)), (q_p0_words, .inl (cJ, 150, .inr (.inl A_p0_words_52)))] H := ms_PDsub hP hD [0, 1, 2, 7, 8, 9, 3, 4, 5, 6] (by decide +kernel) rfl
            refine lv_aload_n hx hb dX3_grow_76 rfl (lv_at hl 0 rfl) ?_
            refine va_get (D := G) (ci := 3) (v := .ref q_p0_walk) (C := RX3) (T := TX3) (N := 6) hx hb hts hkX3_grow_X3 hown hK hP 0 rfl rfl 2 (by decide) (hts (.fieldLink RX3 21 "NestReaders$Listing" "walk" "LNestReaders$Walk;") hfX3_grow_21) (fun _ h9 => h9) rfl dX3_grow_77 ?_
            refine lv_aload_n hx hb dX3_grow_80 rfl (lv_at hl 0 rfl) ?_
            refine va_get (D := G) (ci := 3) (v := .ref q_p0_reader) (C := RX3) (T := TX3) (N := 6) hx hb hts hkX3_grow_X3 hown hK hP 0 rfl rfl 0 (by decide) (hts (.fieldLink RX3 37 "NestReaders$Listing" "reader" "LNestReaders$Reader;") hfX3_grow_37) (fun _ h9 => h9) rfl dX3_grow_81 ?_
            refine lv_aload_n hx hb dX3_grow_84 rfl (lv_at hl 0 rfl) ?_
            refine va_get (D := G) (ci := 3) (v := .ref q_p0_row) (C := RX3) (T := TX3) (N := 6) hx hb hts hkX3_grow_X3 hown hK hP 0 rfl rfl 1 (by decide) (hts (.fieldLink RX3 12 "NestReaders$Listing" "row" "LNestReaders$Row;") hfX3_grow_12) (fun _ h9 => h9) rfl dX3_grow_85 ?_
            refine lv_iload_n hx hb dX3_grow_88 rfl (lv_at hl 1 rfl) ?_
            refine ms_mVv (wr := [(q_p0, .inr (3, [.ref q_p0_reader, .ref q_p0_row, .ref q_p0_walk, .ref q_p0_words, .ref q_p0_listed, .int F_p0_seen])), (q_p0_words, .inl (cJ, 150, .inr (.inl A_p0_words_52)))]) ⟨hx, hb, hml, hown, hts⟩ hK hP hD (c_X9_step l G cI cJ cZ q_p0_walk q_p0_walk_come q_p0_walk_since q_p0_reader q_p0_reader_ways q_p0_row q_p0_row_letters q_p0_row_base H.size F_p0_walk_same A_p0_walk_come_52 A_p0_walk_since_52 F_p0_reader_states F_p0_reader_marks F_p0_reader_takes F_p0_reader_changes A_p0_reader_ways u7 u8 u9 p1 hw) gX3_grow_X9_step rfl nd_X9_step (ci := 9) rfl rfl rfl ⟨rfl, rfl⟩ rfl ⟨by dsimp only [rmX3_grow, rmX9_step]; omega, by dsimp only [rmX3_grow, rmX9_step]; omega⟩ hl.1 (rest := []) rfl (Nat.le_of_ble_eq_true rfl)  hS hA [6, 7, 8, 1, 2, 3, 4, 5] [0, 9] rfl rfl rfl (by decide) rfl dX3_grow_89 (fun u H locs hw hP hD hS => ?_)
            obtain ⟨u10, u11⟩ := u
            obtain ⟨hP, hD⟩ : ms_PD G A [(q_p0, .inr (3, [.ref q_p0_reader, .ref q_p0_row, .ref q_p0_walk, .ref q_p0_words, .ref q_p0_listed, .int F_p0_seen])), (q_p0_reader, .inr (5, [.ref q_p0_reader_ways, .int F_p0_reader_states, .int F_p0_reader_marks, .int F_p0_reader_takes, .int F_p0_reader_changes])), (q_p0_reader_ways, .inl (cI, 18, .inl A_p0_reader_ways)), (q_p0_row, .inr (6, [.ref q_p0_row_letters, .ref q_p0_row_base, .int u7])), (q_p0_row_letters, .inl (cI, 24, .inl u8)), (q_p0_row_base, .inl (cI, 25, .inl u9)), (q_p0_walk, .inr (9, [.ref q_p0_walk_come, .ref q_p0_walk_since, .int F_p0_walk_same])), (q_p0_walk_come, .inl (cI, 25, .inl u10)), (q_p0_walk_since, .inl (cI, 25, .inl u11)), (q_p0_words, .inl (cJ, 150, .inr (.inl A_p0_words_52)))] H := ms_PDsub hP hD [0, 5, 6, 7, 8, 9, 2, 3, 4, 1] (by decide +kernel) rfl
            refine lv_aload_n hx hb dX3_grow_92 rfl (lv_at hl 0 rfl) ?_
            refine lv_iload_n hx hb dX3_grow_93 rfl (lv_at hl 1 rfl) ?_
            refine lv_iconst (v := 1) hx hb dX3_grow_94 (by decide) ?_
            refine lv_iadd hx hb dX3_grow_95 ?_
            refine lv_iload_n hx hb dX3_grow_96 rfl (lv_at hl 2 rfl) ?_
            refine lv_bipush (v := (6)) hx hb dX3_grow_97 (by decide) ?_
            refine lv_imul hx hb dX3_grow_99 ?_
            refine lv_iload hx hb dX3_grow_100 (lv_at hl 4 rfl) ?_
            refine lv_iadd hx hb dX3_grow_102 ?_
            refine lv_iload_n hx hb dX3_grow_103 rfl (lv_at hl 3 rfl) ?_
            refine ms_mXSv (wr := []) ms_K.blind (fun U hU hW => hX.go hS (va_free hD hS hA [0, 1, 2, 3, 4, 5, 6, 7, 8, 9] rfl) hU hW) ⟨hx, hb, hml, hown, hts⟩ hK hP hD (ih q_p0 q_p0_reader q_p0_row q_p0_walk q_p0_words q_p0_listed q_p0_reader_ways q_p0_row_letters q_p0_row_base q_p0_walk_come q_p0_walk_since H.size F_p0_seen F_p0_reader_states F_p0_reader_marks F_p0_reader_takes F_p0_reader_changes A_p0_reader_ways u7 u8 u9 F_p0_walk_same u10 u11 A_p0_words_52 (p1 + (1 : Int32)) ((p2 * (6 : Int32)) + i52_5) p3 hw) gX3_grow_X3_grow rfl nd_X3_grow ⟨rfl, rfl⟩ rfl ⟨by dsimp only [rmX3_grow, rmX3_grow]; omega, by dsimp only [rmX3_grow, rmX3_grow]; omega⟩ hl.1 (rest := []) rfl (Nat.le_of_ble_eq_true rfl)  hS hA [0, 1, 2, 3, 4, 5, 6, 7, 8, 9] [] rfl rfl rfl (by decide) rfl dX3_grow_104 (fun u H locs hw hP hD hS => ?_)
            obtain ⟨u12, u13, u14, u15, u16, u17⟩ := u
            obtain ⟨hP, hD⟩ : ms_PD G A [(q_p0, .inr (3, [.ref q_p0_reader, .ref q_p0_row, .ref q_p0_walk, .ref q_p0_words, .ref q_p0_listed, .int F_p0_seen])), (q_p0_reader, .inr (5, [.ref q_p0_reader_ways, .int F_p0_reader_states, .int F_p0_reader_marks, .int F_p0_reader_takes, .int F_p0_reader_changes])), (q_p0_reader_ways, .inl (cI, 18, .inl A_p0_reader_ways)), (q_p0_row, .inr (6, [.ref q_p0_row_letters, .ref q_p0_row_base, .int u12])), (q_p0_row_letters, .inl (cI, 24, .inl u13)), (q_p0_row_base, .inl (cI, 25, .inl u14)), (q_p0_walk, .inr (9, [.ref q_p0_walk_come, .ref q_p0_walk_since, .int F_p0_walk_same])), (q_p0_walk_come, .inl (cI, 25, .inl u15)), (q_p0_walk_since, .inl (cI, 25, .inl u16)), (q_p0_words, .inl (cJ, 150, .inr (.inl u17)))] H := ms_PDsub hP hD [0, 1, 2, 3, 4, 5, 6, 7, 8, 9] (by decide +kernel) rfl
            obtain ⟨x18, ex18⟩ : ∃ y : Int32, y = i52_5 + (1 : Int32) := ⟨_, rfl⟩
            have hw := hw x18 ex18
            refine lv_iinc (v := x18) (lv' := [(5, .int x18), (0, .ref q_p0), (1, .int p1), (2, .int p2), (3, .int p3)]) hx hb dX3_grow_107 hl (k := 4) rfl (by rw [ex18]; rfl) (by decide) rfl (fun ls hl => ?_)
            refine lv_goto (tgt := 52) hx hb dX3_grow_110 (by decide) ?_
            exact hw H locs hP hD hS ls (lv_sub hl [1, 2, 3, 4, 0] rfl)
        · have hw := hw.1 c4
          exact hRet ⟨F_p0_row_size, A_p0_row_letters, A_p0_row_base, A_p0_walk_come, A_p0_walk_since, A_p0_words_j33⟩ H locs _ _ hw hP hD hS dX3_grow_48
    )
  refine lv_icmp_ne (tgt := 33) hx hb dX3_grow_12 (by decide) (fun c19 => ?_) (fun c19 => ?_)
  · have hw := hw.2 c19
    exact hw s.heap [] hP hD hS ls (lv_sub hl [1, 2, 3, 4, 0] rfl)
  · have hw := hw.1 c19
    refine lv_aload_n hx hb dX3_grow_15 rfl (lv_at hl 1 rfl) ?_
    refine va_get (D := G) (ci := 3) (v := .ref q_p0_reader) (C := RX3) (T := TX3) (N := 6) hx hb hts hkX3_grow_X3 hown hK hP 0 rfl rfl 0 (by decide) (hts (.fieldLink RX3 37 "NestReaders$Listing" "reader" "LNestReaders$Reader;") hfX3_grow_37) (fun _ h9 => h9) rfl dX3_grow_16 ?_
    refine lv_iload hx hb dX3_grow_19 (lv_at hl 0 rfl) ?_
    refine ms_cVi ⟨hx, hb, hml, hown, hts⟩ hK hP hD (c_X5_takesAny l G cI cJ cZ q_p0_reader q_p0_reader_ways F_p0_reader_states F_p0_reader_marks F_p0_reader_takes F_p0_reader_changes r1 hw) gX3_grow_X5_takesAny rfl nd_X5_takesAny (ci := 5) rfl rfl rfl ⟨rfl, rfl⟩ rfl ⟨by dsimp only [rmX3_grow, rmX5_takesAny]; omega, by dsimp only [rmX3_grow, rmX5_takesAny]; omega⟩ hl.1 (rest := []) rfl (Nat.le_of_ble_eq_true rfl)  [1] rfl rfl dX3_grow_21 (fun r20 hw => ?_)
    have zzr20 := hw.1
    have hw := hw.2
    refine lv_if_eq (tgt := 33) hx hb dX3_grow_24 (by decide) (fun c21 => ?_) (fun c21 => ?_)
    · have hw := hw.1 c21
      exact hw s.heap [] hP hD hS ls (lv_sub hl [1, 2, 3, 4, 0] rfl)
    · have hw := hw.2 c21
      refine lv_aload_n hx hb dX3_grow_27 rfl (lv_at hl 1 rfl) ?_
      refine lv_iload_n hx hb dX3_grow_28 rfl (lv_at hl 4 rfl) ?_
      refine lv_iload_n hx hb dX3_grow_29 rfl (lv_at hl 3 rfl) ?_
      refine ms_mXVv (wr := [(q_p0_reader, .inr (5, [.ref q_p0_reader_ways, .int F_p0_reader_states, .int F_p0_reader_marks, .int F_p0_reader_takes, .int F_p0_reader_changes])), (q_p0_reader_ways, .inl (cI, 18, .inl A_p0_reader_ways)), (q_p0_row, .inr (6, [.ref q_p0_row_letters, .ref q_p0_row_base, .int F_p0_row_size])), (q_p0_row_letters, .inl (cI, 24, .inl A_p0_row_letters)), (q_p0_row_base, .inl (cI, 25, .inl A_p0_row_base)), (q_p0_walk, .inr (9, [.ref q_p0_walk_come, .ref q_p0_walk_since, .int F_p0_walk_same])), (q_p0_walk_come, .inl (cI, 25, .inl A_p0_walk_come)), (q_p0_walk_since, .inl (cI, 25, .inl A_p0_walk_since))]) ms_K.blind (fun U hU hW => hX.go hS (va_free hD hS hA [0, 9] rfl) hU hW) ⟨hx, hb, hml, hown, hts⟩ hK hP hD (c_X3_keep l G cI cJ cZ adK adV qB q_p0 q_p0_reader q_p0_row q_p0_walk q_p0_words q_p0_listed s.heap.size F_p0_seen A_p0_words p3 p2 hw) gX3_grow_X3_keep rfl nd_X3_keep (ci := 3) rfl rfl rfl ⟨rfl, rfl⟩ rfl ⟨by dsimp only [rmX3_grow, rmX3_keep]; omega, by dsimp only [rmX3_grow, rmX3_keep]; omega⟩ hl.1 (rest := []) rfl (Nat.le_of_ble_eq_true rfl)  hS hA [0, 9] [1, 2, 3, 4, 5, 6, 7, 8] rfl rfl rfl (by decide) rfl dX3_grow_30 (fun u H locs hw hP hD hS => ?_)
      obtain ⟨u22, rfl⟩ : ∃ z, z = u := ⟨_, rfl⟩
      obtain ⟨hP, hD⟩ : ms_PD G A [(q_p0, .inr (3, [.ref q_p0_reader, .ref q_p0_row, .ref q_p0_walk, .ref q_p0_words, .ref q_p0_listed, .int F_p0_seen])), (q_p0_reader, .inr (5, [.ref q_p0_reader_ways, .int F_p0_reader_states, .int F_p0_reader_marks, .int F_p0_reader_takes, .int F_p0_reader_changes])), (q_p0_reader_ways, .inl (cI, 18, .inl A_p0_reader_ways)), (q_p0_row, .inr (6, [.ref q_p0_row_letters, .ref q_p0_row_base, .int F_p0_row_size])), (q_p0_row_letters, .inl (cI, 24, .inl A_p0_row_letters)), (q_p0_row_base, .inl (cI, 25, .inl A_p0_row_base)), (q_p0_walk, .inr (9, [.ref q_p0_walk_come, .ref q_p0_walk_since, .int F_p0_walk_same])), (q_p0_walk_come, .inl (cI, 25, .inl A_p0_walk_come)), (q_p0_walk_since, .inl (cI, 25, .inl A_p0_walk_since)), (q_p0_words, .inl (cJ, 150, .inr (.inl u22)))] H := ms_PDsub hP hD [8, 0, 1, 2, 3, 4, 5, 6, 7, 9] (by decide +kernel) rfl
      exact hw H locs hP hD hS ls (lv_sub hl [1, 2, 3, 4, 0] rfl)
def wX3_numberOf_L29 (p0 : Int32) (A_words : Nat → Int64) (K : Int32 → Prop) (s18_0 : Int32) (E29 : Int32 → Int32 → Prop) (i29_4 : Int32) (i29_5 : Int32) : Prop :=
  ∀ P29 : Int32 → Int32 → Prop, (∀ (i29_4 : Int32) (i29_5 : Int32), ((s18_0 ≤ i29_5 → E29 i29_4 i29_5) ∧ (¬ s18_0 ≤ i29_5 → (vp_in i29_5 150 ∧ (wJ13_bitCount_95d88 (A_words i29_5.toNatClampNeg) (fun r3 => ((r3 ≤ i29_4 → (∀ x5 : Int32, x5 = (i29_4 - r3) → (∀ x6 : Int32, x6 = i29_5 + (1 : Int32) → P29 x5 x6))) ∧ (¬ r3 ≤ i29_4 → (vp_in p0 6 ∧ (vp_in i29_5 150 ∧ (wX3_placeOf (A_words i29_5.toNatClampNeg) i29_4 (fun r7 => K (((i29_5 - (ms_beg p0.toNatClampNeg)) * (64 : Int32)) + r7)))))))))))) → P29 i29_4 i29_5) → P29 i29_4 i29_5
def wX3_numberOf (p0 : Int32) (p1 : Int32) (A_words : Nat → Int64) (K : Int32 → Prop) : Prop :=
  (∀ J18 : Int32 → Prop, (∀ (s18_0 : Int32), (vp_in p0 6 ∧ (∀ x1 : Int32, x1 = (ms_beg p0.toNatClampNeg) → (wX3_numberOf_L29 p0 A_words K s18_0 (fun i29_4 i29_5 => K (-1 : Int32)) p1 x1))) → J18 s18_0) → (((5 : Int32) ≤ p0 → J18 (150 : Int32)) ∧ (¬ (5 : Int32) ≤ p0 → (vp_in (p0 + (1 : Int32)) 6 ∧ J18 (ms_beg (p0 + (1 : Int32)).toNatClampNeg)))))
abbrev rmX3_numberOf : Room := { frames := 1, cells := 0, slots := 0, locals := 24 }
theorem nd_X3_numberOf : yX3_numberOf.cls = RX3 ∧ yX3_numberOf.cls ≠ "java/lang/invoke/MethodHandle" ∧ yX3_numberOf.cls ≠ "java/lang/invoke/VarHandle" ∧ (parseMethodDescriptor yX3_numberOf.desc).map (fun d => d.parameters.length) = some 2 := by decide +kernel
theorem hfX3_numberOf_85 : (Cond.fieldLink RX3 85 "NestReaders$Listing" "BEGIN" "[I") ∈ wsX3_numberOf := List.mem_cons_of_mem _ m46_7
theorem hkX3_numberOf_X3 : ∀ w ∈ u_ws RX3 TX3 6, w ∈ wsX3_numberOf := fun w h => List.mem_cons_of_mem _ (inlX3 w h)
theorem hfX3_numberOf_25 : (Cond.fieldLink RX3 25 "NestReaders$Listing" "words" "[J") ∈ wsX3_numberOf := List.mem_cons_of_mem _ m8_11
set_option maxHeartbeats 4000000 in
set_option maxRecDepth 100000 in
theorem c_X3_numberOf (l : Launch) (G : va_G) (cI cJ cZ : ClassId) (adK adV : Nat → Nat) (qB : Nat) (q_t q_t_reader q_t_row q_t_walk q_t_words q_t_listed : Nat) (F_seen : Int32) (A_words : Nat → Int64) (p0 : Int32) (p1 : Int32) {K : Int32 → Prop} (hw : wX3_numberOf p0 p1 A_words K) : Met l yX3_numberOf wsX3_numberOf rmX3_numberOf (ms_X (ms_K adK adV qB ms_N) (ms_P G (ms_T cI cJ cZ) [(q_t, .inr (3, [.ref q_t_reader, .ref q_t_row, .ref q_t_walk, .ref q_t_words, .ref q_t_listed, .int F_seen])), (q_t_words, .inl (cJ, 150, .inr (.inl A_words)))] [.ref q_t, .int p0, .int p1])) (ms_Qi K) 0 0 ms_N := by
  refine ms_sXi (cc := cX3_numberOf) (maxL := 7) (ty := .int) (by decide) rfl (Nat.le_of_ble_eq_true rfl) ?_
  intro p e s m args below meth c Q hx hb hml hown hts hK hP hD hX hRet ls hl
  have hl : lv_has ls 7 [(0, .ref q_t), (1, .int p0), (2, .int p1)] := hl
  have hown : s.vm.findClass RX3 = some m.cls := hown
  have hS : va_S ms_N s.heap s.heap [] := va_S.rf
  refine lv_iload_n hx hb dX3_numberOf_0 rfl (lv_at hl 1 rfl) ?_
  refine lv_iconst (v := 5) hx hb dX3_numberOf_1 (by decide) ?_
  have hw := hw (fun s18_0 => ∀ ls : Array Slot, lv_has ls 7 [(0, .ref q_t), (1, .int p0), (2, .int p1)] → W p l e rmX3_numberOf s m args below meth c s.heap [] 0 0 Q (F0 m 18 ls [.int s18_0])) (fun s18_0 hw ls hl => by
    refine lv_istore_n (lv' := [(3, .int s18_0), (0, .ref q_t), (1, .int p0), (2, .int p1)]) hx hb dX3_numberOf_18 rfl hl (by decide) rfl (fun ls hl => ?_)
    refine lv_iload_n hx hb dX3_numberOf_19 rfl (lv_at hl 3 rfl) ?_
    refine lv_istore (lv' := [(4, .int p1), (3, .int s18_0), (0, .ref q_t), (1, .int p0), (2, .int p1)]) hx hb dX3_numberOf_20 hl (by decide) rfl (fun ls hl => ?_)
    refine va_gets hx hb hX.2.2.2.1 hS hown (hts (.fieldLink RX3 85 "NestReaders$Listing" "BEGIN" "[I") hfX3_numberOf_85) (fun _ h9 => h9) dX3_numberOf_22 ?_
    refine lv_iload_n hx hb dX3_numberOf_25 rfl (lv_at hl 3 rfl) ?_
    refine va_ti hx hb hX.2.2.2.2.1 hS hw.1 (v := .int (ms_beg p0.toNatClampNeg)) rfl dX3_numberOf_26 ?_
    have hw := hw.2
    refine lv_topi (fun x1 ex1 => ?_)
    have hw := hw x1 ex1
    refine lv_istore (lv' := [(5, .int x1), (4, .int p1), (3, .int s18_0), (0, .ref q_t), (1, .int p0), (2, .int p1)]) hx hb dX3_numberOf_27 hl (by decide) rfl (fun ls hl => ?_)
    refine hw (fun i29_4 i29_5 => ∀ ls : Array Slot, lv_has ls 7 [(0, .ref q_t), (1, .int p0), (3, .int s18_0), (4, .int i29_4), (5, .int i29_5)] → W p l e rmX3_numberOf s m args below meth c s.heap [] 0 0 Q (F0 m 29 ls [])) (fun i29_4 i29_5 hw ls hl => ?_) ls (lv_sub hl [3, 4, 2, 1, 0] rfl)
    refine lv_iload hx hb dX3_numberOf_29 (lv_at hl 4 rfl) ?_
    refine lv_iload_n hx hb dX3_numberOf_31 rfl (lv_at hl 2 rfl) ?_
    refine lv_icmp_ge (tgt := 92) hx hb dX3_numberOf_32 (by decide) (fun c2 => ?_) (fun c2 => ?_)
    · have hw := hw.1 c2
      refine lv_iconst (v := (-1)) hx hb dX3_numberOf_92 (by decide) ?_
      exact hRet (-1 : Int32) _ _ hw (vp_nar_int _) dX3_numberOf_93
    · have hw := hw.2 c2
      refine lv_aload_n hx hb dX3_numberOf_35 rfl (lv_at hl 0 rfl) ?_
      refine va_get (D := G) (ci := 3) (v := .ref q_t_words) (C := RX3) (T := TX3) (N := 6) hx hb hts hkX3_numberOf_X3 hown hK hP 0 rfl rfl 3 (by decide) (hts (.fieldLink RX3 25 "NestReaders$Listing" "words" "[J") hfX3_numberOf_25) (fun _ h9 => h9) rfl dX3_numberOf_36 ?_
      refine lv_iload hx hb dX3_numberOf_39 (lv_at hl 4 rfl) ?_
      refine va_lald (D := G) hx hb hK hP 1 1 rfl rfl hw.1 dX3_numberOf_41 ?_
      have hw := hw.2
      refine ms_cSi ⟨hx, hb, hml, hown, hts⟩ hK hP hD (c_J13_bitCount_95d88 l G cI cJ cZ (A_words i29_5.toNatClampNeg) hw) gX3_numberOf_J13_bitCount_95d88 rfl nd_J13_bitCount_95d88 ⟨rfl, rfl⟩ rfl ⟨Nat.le_of_ble_eq_true rfl, Nat.le_of_ble_eq_true rfl⟩ hl.1 (rest := []) rfl (Nat.le_of_ble_eq_true rfl)  [] rfl rfl dX3_numberOf_42 (fun r3 hw => ?_)
      refine lv_istore (lv' := [(6, .int r3), (0, .ref q_t), (1, .int p0), (3, .int s18_0), (4, .int i29_4), (5, .int i29_5)]) hx hb dX3_numberOf_45 hl (by decide) rfl (fun ls hl => ?_)
      refine lv_iload hx hb dX3_numberOf_47 (lv_at hl 4 rfl) ?_
      refine lv_iload hx hb dX3_numberOf_49 (lv_at hl 0 rfl) ?_
      refine lv_icmp_ge (tgt := 79) hx hb dX3_numberOf_51 (by decide) (fun c4 => ?_) (fun c4 => ?_)
      · have hw := hw.1 c4
        refine lv_iload hx hb dX3_numberOf_79 (lv_at hl 4 rfl) ?_
        refine lv_iload hx hb dX3_numberOf_81 (lv_at hl 0 rfl) ?_
        refine lv_isub hx hb dX3_numberOf_83 ?_
        refine lv_topi (fun x5 ex5 => ?_)
        have hw := hw x5 ex5
        refine lv_istore (lv' := [(4, .int x5), (6, .int r3), (0, .ref q_t), (1, .int p0), (3, .int s18_0), (5, .int i29_5)]) hx hb dX3_numberOf_84 hl (by decide) rfl (fun ls hl => ?_)
        obtain ⟨x6, ex6⟩ : ∃ y : Int32, y = i29_5 + (1 : Int32) := ⟨_, rfl⟩
        have hw := hw x6 ex6
        refine lv_iinc (v := x6) (lv' := [(5, .int x6), (4, .int x5), (6, .int r3), (0, .ref q_t), (1, .int p0), (3, .int s18_0)]) hx hb dX3_numberOf_86 hl (k := 5) rfl (by rw [ex6]; rfl) (by decide) rfl (fun ls hl => ?_)
        refine lv_goto (tgt := 29) hx hb dX3_numberOf_89 (by decide) ?_
        exact hw ls (lv_sub hl [3, 4, 5, 1, 0] rfl)
      · have hw := hw.2 c4
        refine lv_iload hx hb dX3_numberOf_54 (lv_at hl 5 rfl) ?_
        refine va_gets hx hb hX.2.2.2.1 hS hown (hts (.fieldLink RX3 85 "NestReaders$Listing" "BEGIN" "[I") hfX3_numberOf_85) (fun _ h9 => h9) dX3_numberOf_56 ?_
        refine lv_iload_n hx hb dX3_numberOf_59 rfl (lv_at hl 2 rfl) ?_
        refine va_ti hx hb hX.2.2.2.2.1 hS hw.1 (v := .int (ms_beg p0.toNatClampNeg)) rfl dX3_numberOf_60 ?_
        have hw := hw.2
        refine lv_isub hx hb dX3_numberOf_61 ?_
        refine lv_bipush (v := (64)) hx hb dX3_numberOf_62 (by decide) ?_
        refine lv_imul hx hb dX3_numberOf_64 ?_
        refine lv_aload_n hx hb dX3_numberOf_65 rfl (lv_at hl 1 rfl) ?_
        refine va_get (D := G) (ci := 3) (v := .ref q_t_words) (C := RX3) (T := TX3) (N := 6) hx hb hts hkX3_numberOf_X3 hown hK hP 0 rfl rfl 3 (by decide) (hts (.fieldLink RX3 25 "NestReaders$Listing" "words" "[J") hfX3_numberOf_25) (fun _ h9 => h9) rfl dX3_numberOf_66 ?_
        refine lv_iload hx hb dX3_numberOf_69 (lv_at hl 5 rfl) ?_
        refine va_lald (D := G) hx hb hK hP 1 1 rfl rfl hw.1 dX3_numberOf_71 ?_
        have hw := hw.2
        refine lv_iload hx hb dX3_numberOf_72 (lv_at hl 4 rfl) ?_
        refine ms_cSi ⟨hx, hb, hml, hown, hts⟩ hK hP hD (c_X3_placeOf l G cI cJ cZ (A_words i29_5.toNatClampNeg) i29_4 hw) gX3_numberOf_X3_placeOf rfl nd_X3_placeOf ⟨rfl, rfl⟩ rfl ⟨Nat.le_of_ble_eq_true rfl, Nat.le_of_ble_eq_true rfl⟩ hl.1 (rest := [.int ((i29_5 - (ms_beg p0.toNatClampNeg)) * (64 : Int32))]) rfl (Nat.le_of_ble_eq_true rfl)  [] rfl rfl dX3_numberOf_74 (fun r7 hw => ?_)
        refine lv_iadd hx hb dX3_numberOf_77 ?_
        exact hRet (((i29_5 - (ms_beg p0.toNatClampNeg)) * (64 : Int32)) + r7) _ _ hw (vp_nar_int _) dX3_numberOf_78
    )
  refine lv_icmp_ge (tgt := 15) hx hb dX3_numberOf_2 (by decide) (fun c8 => ?_) (fun c8 => ?_)
  · have hw := hw.1 c8
    refine lv_sipush (v := (150)) hx hb dX3_numberOf_15 (by decide) ?_
    exact hw ls (lv_sub hl [0, 1, 2] rfl)
  · have hw := hw.2 c8
    refine va_gets hx hb hX.2.2.2.1 hS hown (hts (.fieldLink RX3 85 "NestReaders$Listing" "BEGIN" "[I") hfX3_numberOf_85) (fun _ h9 => h9) dX3_numberOf_5 ?_
    refine lv_iload_n hx hb dX3_numberOf_8 rfl (lv_at hl 1 rfl) ?_
    refine lv_iconst (v := 1) hx hb dX3_numberOf_9 (by decide) ?_
    refine lv_iadd hx hb dX3_numberOf_10 ?_
    refine va_ti hx hb hX.2.2.2.2.1 hS hw.1 (v := .int (ms_beg (p0 + (1 : Int32)).toNatClampNeg)) rfl dX3_numberOf_11 ?_
    have hw := hw.2
    refine lv_goto (tgt := 18) hx hb dX3_numberOf_12 (by decide) ?_
    exact hw ls (lv_sub hl [0, 1, 2] rfl)
def wX3_letterAt_L79 (p2 : Int32) (E79 : Int32 → Int32 → Prop) (i79_4 : Int32) (i79_5 : Int32) : Prop :=
  ∀ P79 : Int32 → Int32 → Prop, (∀ (i79_4 : Int32) (i79_5 : Int32), ((i79_5 ≤ p2 → E79 i79_4 i79_5) ∧ (¬ i79_5 ≤ p2 → ((i79_4 < (0 : Int32) → E79 i79_4 i79_5) ∧ (¬ i79_4 < (0 : Int32) → (∀ x13 : Int32, x13 = (i79_4 / (6 : Int32)) → (∀ x14 : Int32, x14 = i79_5 + (-1 : Int32) → P79 x13 x14)))))) → P79 i79_4 i79_5) → P79 i79_4 i79_5
def wX3_letterAt (p0 : Int32) (p1 : Int32) (p2 : Int32) (F_seen : Int32) (F_reader_states : Int32) (F_reader_marks : Int32) (F_reader_takes : Int32) (F_reader_changes : Int32) (A_reader_ways : Nat → Int32) (F_row_size : Int32) (A_row_letters : Nat → Int32) (A_row_base : Nat → Int32) (F_walk_same : Int32) (A_walk_come : Nat → Int32) (A_walk_since : Nat → Int32) (A_words : Nat → Int64) (A_listed : Nat → Int32) (K : Int32 → Int32 → Int32 → (Nat → Int32) → (Nat → Int32) → Int32 → (Nat → Int32) → (Nat → Int32) → (Nat → Int64) → (Nat → Int32) → Prop) : Prop :=
  ((p0 < (0 : Int32) → K (-1 : Int32) F_seen F_row_size A_row_letters A_row_base F_walk_same A_walk_come A_walk_since A_words A_listed) ∧ (¬ p0 < (0 : Int32) → (((5 : Int32) < p0 → K (-1 : Int32) F_seen F_row_size A_row_letters A_row_base F_walk_same A_walk_come A_walk_since A_words A_listed) ∧ (¬ (5 : Int32) < p0 → ((p2 < (0 : Int32) → K (-1 : Int32) F_seen F_row_size A_row_letters A_row_base F_walk_same A_walk_come A_walk_since A_words A_listed) ∧ (¬ p2 < (0 : Int32) → ((p2 < p0 → (wX3_forgetIfChanged F_seen F_reader_changes A_words A_listed (fun u5 u6 u7 => (vp_in p0 6 ∧ (∀ J66 : Int32 → (Nat → Int32) → (Nat → Int32) → Int32 → (Nat → Int32) → (Nat → Int32) → (Nat → Int64) → (Nat → Int32) → Prop, (∀ (F_row_size_j66 : Int32) (A_row_letters_j66 : Nat → Int32) (A_row_base_j66 : Nat → Int32) (F_walk_same_j66 : Int32) (A_walk_come_j66 : Nat → Int32) (A_walk_since_j66 : Nat → Int32) (A_words_j66 : Nat → Int64) (A_listed_j66 : Nat → Int32), (wX3_numberOf p0 p1 A_words_j66 (fun r8 => (∀ x9 : Int32, x9 = (p0 - (1 : Int32)) → (∀ E79 : Int32 → Int32 → Prop, (∀ (i79_4 : Int32) (i79_5 : Int32), ((i79_4 < (0 : Int32) → K (-1 : Int32) u5 F_row_size_j66 A_row_letters_j66 A_row_base_j66 F_walk_same_j66 A_walk_come_j66 A_walk_since_j66 A_words_j66 A_listed_j66) ∧ (¬ i79_4 < (0 : Int32) → K (i79_4 - i79_4 / (6 : Int32) * (6 : Int32)) u5 F_row_size_j66 A_row_letters_j66 A_row_base_j66 F_walk_same_j66 A_walk_come_j66 A_walk_since_j66 A_words_j66 A_listed_j66)) → E79 i79_4 i79_5) → wX3_letterAt_L79 p2 E79 r8 x9)))) → J66 F_row_size_j66 A_row_letters_j66 A_row_base_j66 F_walk_same_j66 A_walk_come_j66 A_walk_since_j66 A_words_j66 A_listed_j66) → (((u7 p0.toNatClampNeg) = (0 : Int32) → (vp_in p0 6 ∧ (∀ g16 : Nat → Int32, g16 = upd u7 p0.toNatClampNeg (vp_nar .boolean (1 : Int32)) → (wX6_cut (0 : Int32) F_row_size (fun u17 => (wX9_begin F_walk_same A_walk_come A_walk_since F_reader_states (fun u18 u19 u20 => (wX3_grow 7 (0 : Int32) (0 : Int32) p0 F_reader_marks F_reader_takes A_reader_ways u17 A_row_letters A_row_base u18 u19 u20 u6 (fun u21 u22 u23 u24 u25 u26 => J66 u21 u22 u23 u18 u24 u25 u26 g16))))))))) ∧ (¬ (u7 p0.toNatClampNeg) = (0 : Int32) → J66 F_row_size A_row_letters A_row_base F_walk_same A_walk_come A_walk_since u6 u7))))))) ∧ (¬ p2 < p0 → K (-1 : Int32) F_seen F_row_size A_row_letters A_row_base F_walk_same A_walk_come A_walk_since A_words A_listed))))))))
abbrev rmX3_letterAt : Room := { frames := 12, cells := 0, slots := 0, locals := 293 }
theorem nd_X3_letterAt : yX3_letterAt.cls = RX3 ∧ yX3_letterAt.cls ≠ "java/lang/invoke/MethodHandle" ∧ yX3_letterAt.cls ≠ "java/lang/invoke/VarHandle" ∧ (parseMethodDescriptor yX3_letterAt.desc).map (fun d => d.parameters.length) = some 3 := by decide +kernel
theorem hkX3_letterAt_X3 : ∀ w ∈ u_ws RX3 TX3 6, w ∈ wsX3_letterAt := fun w h => List.mem_cons_of_mem _ (inlX3 w h)
theorem hfX3_letterAt_29 : (Cond.fieldLink RX3 29 "NestReaders$Listing" "listed" "[Z") ∈ wsX3_letterAt := List.mem_cons_of_mem _ m8_13
theorem hfX3_letterAt_12 : (Cond.fieldLink RX3 12 "NestReaders$Listing" "row" "LNestReaders$Row;") ∈ wsX3_letterAt := List.mem_cons_of_mem _ m8_8
theorem hfX3_letterAt_21 : (Cond.fieldLink RX3 21 "NestReaders$Listing" "walk" "LNestReaders$Walk;") ∈ wsX3_letterAt := List.mem_cons_of_mem _ m8_10
theorem hfX3_letterAt_37 : (Cond.fieldLink RX3 37 "NestReaders$Listing" "reader" "LNestReaders$Reader;") ∈ wsX3_letterAt := List.mem_cons_of_mem _ m8_15
set_option maxHeartbeats 4000000 in
set_option maxRecDepth 100000 in
theorem c_X3_letterAt (l : Launch) (G : va_G) (cI cJ cZ : ClassId) (adK adV : Nat → Nat) (qB : Nat) (q_t q_t_reader q_t_row q_t_walk q_t_words q_t_listed q_t_reader_ways q_t_row_letters q_t_row_base q_t_walk_come q_t_walk_since : Nat) (sz : Nat) (F_seen : Int32) (F_reader_states : Int32) (F_reader_marks : Int32) (F_reader_takes : Int32) (F_reader_changes : Int32) (A_reader_ways : Nat → Int32) (F_row_size : Int32) (A_row_letters : Nat → Int32) (A_row_base : Nat → Int32) (F_walk_same : Int32) (A_walk_come : Nat → Int32) (A_walk_since : Nat → Int32) (A_words : Nat → Int64) (A_listed : Nat → Int32) (p0 : Int32) (p1 : Int32) (p2 : Int32) {K : Int32 → Int32 → Int32 → (Nat → Int32) → (Nat → Int32) → Int32 → (Nat → Int32) → (Nat → Int32) → (Nat → Int64) → (Nat → Int32) → Prop} (hw : wX3_letterAt p0 p1 p2 F_seen F_reader_states F_reader_marks F_reader_takes F_reader_changes A_reader_ways F_row_size A_row_letters A_row_base F_walk_same A_walk_come A_walk_since A_words A_listed K) : Met l yX3_letterAt wsX3_letterAt rmX3_letterAt (ms_X (ms_K adK adV qB (va_A [(q_t, .inr (3, [.ref q_t_reader, .ref q_t_row, .ref q_t_walk, .ref q_t_words, .ref q_t_listed, .int F_seen])), (q_t_reader, .inr (5, [.ref q_t_reader_ways, .int F_reader_states, .int F_reader_marks, .int F_reader_takes, .int F_reader_changes])), (q_t_reader_ways, .inl (cI, 18, .inl A_reader_ways)), (q_t_row, .inr (6, [.ref q_t_row_letters, .ref q_t_row_base, .int F_row_size])), (q_t_row_letters, .inl (cI, 24, .inl A_row_letters)), (q_t_row_base, .inl (cI, 25, .inl A_row_base)), (q_t_walk, .inr (9, [.ref q_t_walk_come, .ref q_t_walk_since, .int F_walk_same])), (q_t_walk_come, .inl (cI, 25, .inl A_walk_come)), (q_t_walk_since, .inl (cI, 25, .inl A_walk_since)), (q_t_words, .inl (cJ, 150, .inr (.inl A_words))), (q_t_listed, .inl (cZ, 6, .inl A_listed))] sz)) (ms_Pz G (ms_T cI cJ cZ) [(q_t, .inr (3, [.ref q_t_reader, .ref q_t_row, .ref q_t_walk, .ref q_t_words, .ref q_t_listed, .int F_seen])), (q_t_reader, .inr (5, [.ref q_t_reader_ways, .int F_reader_states, .int F_reader_marks, .int F_reader_takes, .int F_reader_changes])), (q_t_reader_ways, .inl (cI, 18, .inl A_reader_ways)), (q_t_row, .inr (6, [.ref q_t_row_letters, .ref q_t_row_base, .int F_row_size])), (q_t_row_letters, .inl (cI, 24, .inl A_row_letters)), (q_t_row_base, .inl (cI, 25, .inl A_row_base)), (q_t_walk, .inr (9, [.ref q_t_walk_come, .ref q_t_walk_since, .int F_walk_same])), (q_t_walk_come, .inl (cI, 25, .inl A_walk_come)), (q_t_walk_since, .inl (cI, 25, .inl A_walk_since)), (q_t_words, .inl (cJ, 150, .inr (.inl A_words))), (q_t_listed, .inl (cZ, 6, .inl A_listed))] sz [.ref q_t, .int p0, .int p1, .int p2])) (ms_Wi G (ms_T cI cJ cZ) (fun (r : Int32) (u : Int32 × Int32 × (Nat → Int32) × (Nat → Int32) × Int32 × (Nat → Int32) × (Nat → Int32) × (Nat → Int64) × (Nat → Int32)) => K r u.1 u.2.1 u.2.2.1 u.2.2.2.1 u.2.2.2.2.1 u.2.2.2.2.2.1 u.2.2.2.2.2.2.1 u.2.2.2.2.2.2.2.1 u.2.2.2.2.2.2.2.2) (fun u : Int32 × Int32 × (Nat → Int32) × (Nat → Int32) × Int32 × (Nat → Int32) × (Nat → Int32) × (Nat → Int64) × (Nat → Int32) => [(q_t, .inr (3, [.ref q_t_reader, .ref q_t_row, .ref q_t_walk, .ref q_t_words, .ref q_t_listed, .int u.1])), (q_t_reader, .inr (5, [.ref q_t_reader_ways, .int F_reader_states, .int F_reader_marks, .int F_reader_takes, .int F_reader_changes])), (q_t_reader_ways, .inl (cI, 18, .inl A_reader_ways)), (q_t_row, .inr (6, [.ref q_t_row_letters, .ref q_t_row_base, .int u.2.1])), (q_t_row_letters, .inl (cI, 24, .inl u.2.2.1)), (q_t_row_base, .inl (cI, 25, .inl u.2.2.2.1)), (q_t_walk, .inr (9, [.ref q_t_walk_come, .ref q_t_walk_since, .int u.2.2.2.2.1])), (q_t_walk_come, .inl (cI, 25, .inl u.2.2.2.2.2.1)), (q_t_walk_since, .inl (cI, 25, .inl u.2.2.2.2.2.2.1)), (q_t_words, .inl (cJ, 150, .inr (.inl u.2.2.2.2.2.2.2.1))), (q_t_listed, .inl (cZ, 6, .inl u.2.2.2.2.2.2.2.2))]) (va_A [(q_t, .inr (3, [.ref q_t_reader, .ref q_t_row, .ref q_t_walk, .ref q_t_words, .ref q_t_listed, .int F_seen])), (q_t_reader, .inr (5, [.ref q_t_reader_ways, .int F_reader_states, .int F_reader_marks, .int F_reader_takes, .int F_reader_changes])), (q_t_reader_ways, .inl (cI, 18, .inl A_reader_ways)), (q_t_row, .inr (6, [.ref q_t_row_letters, .ref q_t_row_base, .int F_row_size])), (q_t_row_letters, .inl (cI, 24, .inl A_row_letters)), (q_t_row_base, .inl (cI, 25, .inl A_row_base)), (q_t_walk, .inr (9, [.ref q_t_walk_come, .ref q_t_walk_since, .int F_walk_same])), (q_t_walk_come, .inl (cI, 25, .inl A_walk_come)), (q_t_walk_since, .inl (cI, 25, .inl A_walk_since)), (q_t_words, .inl (cJ, 150, .inr (.inl A_words))), (q_t_listed, .inl (cZ, 6, .inl A_listed))] sz)) 0 0 (va_A [(q_t, .inr (3, [.ref q_t_reader, .ref q_t_row, .ref q_t_walk, .ref q_t_words, .ref q_t_listed, .int F_seen])), (q_t_reader, .inr (5, [.ref q_t_reader_ways, .int F_reader_states, .int F_reader_marks, .int F_reader_takes, .int F_reader_changes])), (q_t_reader_ways, .inl (cI, 18, .inl A_reader_ways)), (q_t_row, .inr (6, [.ref q_t_row_letters, .ref q_t_row_base, .int F_row_size])), (q_t_row_letters, .inl (cI, 24, .inl A_row_letters)), (q_t_row_base, .inl (cI, 25, .inl A_row_base)), (q_t_walk, .inr (9, [.ref q_t_walk_come, .ref q_t_walk_since, .int F_walk_same])), (q_t_walk_come, .inl (cI, 25, .inl A_walk_come)), (q_t_walk_since, .inl (cI, 25, .inl A_walk_since)), (q_t_words, .inl (cJ, 150, .inr (.inl A_words))), (q_t_listed, .inl (cZ, 6, .inl A_listed))] sz) := by
  refine ms_tXi (cc := cX3_letterAt) (maxL := 6) (ty := .int) (by decide) rfl (Nat.le_of_ble_eq_true rfl) ?_
  intro p e s m args below meth c Q A hx hb hml hown hts hK hP hD hS hA hAi hsz hX hRet ls hl
  have hl : lv_has ls 6 [(0, .ref q_t), (1, .int p0), (2, .int p1), (3, .int p2)] := hl
  have hown : s.vm.findClass RX3 = some m.cls := hown
  have hX : ms_K adK adV qB A s := hX.narrow (fun q h => by rw [← hsz]; exact (hAi q).mp h)
  refine lv_iload_n hx hb dX3_letterAt_0 rfl (lv_at hl 1 rfl) ?_
  refine lv_if_lt (tgt := 18) hx hb dX3_letterAt_1 (by decide) (fun c1 => ?_) (fun c1 => ?_)
  · have hw := hw.1 c1
    refine lv_iconst (v := (-1)) hx hb dX3_letterAt_18 (by decide) ?_
    exact hRet (-1 : Int32) ⟨F_seen, F_row_size, A_row_letters, A_row_base, F_walk_same, A_walk_come, A_walk_since, A_words, A_listed⟩ s.heap [] _ _ hw (vp_nar_int _) hP hD hS dX3_letterAt_19
  · have hw := hw.2 c1
    refine lv_iload_n hx hb dX3_letterAt_4 rfl (lv_at hl 1 rfl) ?_
    refine lv_iconst (v := 5) hx hb dX3_letterAt_5 (by decide) ?_
    refine lv_icmp_gt (tgt := 18) hx hb dX3_letterAt_6 (by decide) (fun c2 => ?_) (fun c2 => ?_)
    · have hw := hw.1 c2
      refine lv_iconst (v := (-1)) hx hb dX3_letterAt_18 (by decide) ?_
      exact hRet (-1 : Int32) ⟨F_seen, F_row_size, A_row_letters, A_row_base, F_walk_same, A_walk_come, A_walk_since, A_words, A_listed⟩ s.heap [] _ _ hw (vp_nar_int _) hP hD hS dX3_letterAt_19
    · have hw := hw.2 c2
      refine lv_iload_n hx hb dX3_letterAt_9 rfl (lv_at hl 3 rfl) ?_
      refine lv_if_lt (tgt := 18) hx hb dX3_letterAt_10 (by decide) (fun c3 => ?_) (fun c3 => ?_)
      · have hw := hw.1 c3
        refine lv_iconst (v := (-1)) hx hb dX3_letterAt_18 (by decide) ?_
        exact hRet (-1 : Int32) ⟨F_seen, F_row_size, A_row_letters, A_row_base, F_walk_same, A_walk_come, A_walk_since, A_words, A_listed⟩ s.heap [] _ _ hw (vp_nar_int _) hP hD hS dX3_letterAt_19
      · have hw := hw.2 c3
        refine lv_iload_n hx hb dX3_letterAt_13 rfl (lv_at hl 3 rfl) ?_
        refine lv_iload_n hx hb dX3_letterAt_14 rfl (lv_at hl 1 rfl) ?_
        refine lv_icmp_lt (tgt := 20) hx hb dX3_letterAt_15 (by decide) (fun c4 => ?_) (fun c4 => ?_)
        · have hw := hw.1 c4
          refine lv_aload_n hx hb dX3_letterAt_20 rfl (lv_at hl 0 rfl) ?_
          refine ms_mVv (wr := [(q_t_reader_ways, .inl (cI, 18, .inl A_reader_ways)), (q_t_row, .inr (6, [.ref q_t_row_letters, .ref q_t_row_base, .int F_row_size])), (q_t_row_letters, .inl (cI, 24, .inl A_row_letters)), (q_t_row_base, .inl (cI, 25, .inl A_row_base)), (q_t_walk, .inr (9, [.ref q_t_walk_come, .ref q_t_walk_since, .int F_walk_same])), (q_t_walk_come, .inl (cI, 25, .inl A_walk_come)), (q_t_walk_since, .inl (cI, 25, .inl A_walk_since))]) ⟨hx, hb, hml, hown, hts⟩ hK hP hD (c_X3_forgetIfChanged l G cI cJ cZ q_t q_t_reader q_t_row q_t_walk q_t_words q_t_listed q_t_reader_ways s.heap.size F_seen F_reader_states F_reader_marks F_reader_takes F_reader_changes A_words A_listed hw) gX3_letterAt_X3_forgetIfChanged rfl nd_X3_forgetIfChanged (ci := 3) rfl rfl rfl ⟨rfl, rfl⟩ rfl ⟨Nat.le_of_ble_eq_true rfl, Nat.le_of_ble_eq_true rfl⟩ hl.1 (rest := []) rfl (Nat.le_of_ble_eq_true rfl)  hS hA [0, 1, 9, 10] [2, 3, 4, 5, 6, 7, 8] rfl rfl rfl (by decide) rfl dX3_letterAt_21 (fun u H locs hw hP hD hS => ?_)
          obtain ⟨u5, u6, u7⟩ := u
          obtain ⟨hP, hD⟩ : ms_PD G A [(q_t, .inr (3, [.ref q_t_reader, .ref q_t_row, .ref q_t_walk, .ref q_t_words, .ref q_t_listed, .int u5])), (q_t_reader, .inr (5, [.ref q_t_reader_ways, .int F_reader_states, .int F_reader_marks, .int F_reader_takes, .int F_reader_changes])), (q_t_reader_ways, .inl (cI, 18, .inl A_reader_ways)), (q_t_row, .inr (6, [.ref q_t_row_letters, .ref q_t_row_base, .int F_row_size])), (q_t_row_letters, .inl (cI, 24, .inl A_row_letters)), (q_t_row_base, .inl (cI, 25, .inl A_row_base)), (q_t_walk, .inr (9, [.ref q_t_walk_come, .ref q_t_walk_since, .int F_walk_same])), (q_t_walk_come, .inl (cI, 25, .inl A_walk_come)), (q_t_walk_since, .inl (cI, 25, .inl A_walk_since)), (q_t_words, .inl (cJ, 150, .inr (.inl u6))), (q_t_listed, .inl (cZ, 6, .inl u7))] H := ms_PDsub hP hD [7, 8, 0, 1, 2, 3, 4, 5, 6, 9, 10] (by decide +kernel) rfl
          refine lv_aload_n hx hb dX3_letterAt_24 rfl (lv_at hl 0 rfl) ?_
          refine va_get (D := G) (ci := 3) (v := .ref q_t_listed) (C := RX3) (T := TX3) (N := 6) hx hb hts hkX3_letterAt_X3 hown hK hP 0 rfl rfl 4 (by decide) (hts (.fieldLink RX3 29 "NestReaders$Listing" "listed" "[Z") hfX3_letterAt_29) (fun _ h9 => h9) rfl dX3_letterAt_25 ?_
          refine lv_iload_n hx hb dX3_letterAt_28 rfl (lv_at hl 1 rfl) ?_
          refine va_zald (D := G) hx hb hK hP 10 2 rfl rfl hw.1 dX3_letterAt_29 ?_
          have hw := hw.2
          have hw := hw (fun F_row_size_j66 A_row_letters_j66 A_row_base_j66 F_walk_same_j66 A_walk_come_j66 A_walk_since_j66 A_words_j66 A_listed_j66 => ∀ (H : Heap) (locs : List Loc), va_P G vwCl [(q_t, .inr (3, [.ref q_t_reader, .ref q_t_row, .ref q_t_walk, .ref q_t_words, .ref q_t_listed, .int u5])), (q_t_reader, .inr (5, [.ref q_t_reader_ways, .int F_reader_states, .int F_reader_marks, .int F_reader_takes, .int F_reader_changes])), (q_t_reader_ways, .inl (cI, 18, .inl A_reader_ways)), (q_t_row, .inr (6, [.ref q_t_row_letters, .ref q_t_row_base, .int F_row_size_j66])), (q_t_row_letters, .inl (cI, 24, .inl A_row_letters_j66)), (q_t_row_base, .inl (cI, 25, .inl A_row_base_j66)), (q_t_walk, .inr (9, [.ref q_t_walk_come, .ref q_t_walk_since, .int F_walk_same_j66])), (q_t_walk_come, .inl (cI, 25, .inl A_walk_come_j66)), (q_t_walk_since, .inl (cI, 25, .inl A_walk_since_j66)), (q_t_words, .inl (cJ, 150, .inr (.inl A_words_j66))), (q_t_listed, .inl (cZ, 6, .inl A_listed_j66))] H → va_D A [(q_t, .inr (3, [.ref q_t_reader, .ref q_t_row, .ref q_t_walk, .ref q_t_words, .ref q_t_listed, .int u5])), (q_t_reader, .inr (5, [.ref q_t_reader_ways, .int F_reader_states, .int F_reader_marks, .int F_reader_takes, .int F_reader_changes])), (q_t_reader_ways, .inl (cI, 18, .inl A_reader_ways)), (q_t_row, .inr (6, [.ref q_t_row_letters, .ref q_t_row_base, .int F_row_size_j66])), (q_t_row_letters, .inl (cI, 24, .inl A_row_letters_j66)), (q_t_row_base, .inl (cI, 25, .inl A_row_base_j66)), (q_t_walk, .inr (9, [.ref q_t_walk_come, .ref q_t_walk_since, .int F_walk_same_j66])), (q_t_walk_come, .inl (cI, 25, .inl A_walk_come_j66)), (q_t_walk_since, .inl (cI, 25, .inl A_walk_since_j66)), (q_t_words, .inl (cJ, 150, .inr (.inl A_words_j66))), (q_t_listed, .inl (cZ, 6, .inl A_listed_j66))] → va_S A s.heap H locs → ∀ ls : Array Slot, lv_has ls 6 [(0, .ref q_t), (1, .int p0), (2, .int p1), (3, .int p2)] → W p l e rmX3_letterAt s m args below meth c H locs 0 0 Q (F0 m 66 ls [])) (fun F_row_size_j66 A_row_letters_j66 A_row_base_j66 F_walk_same_j66 A_walk_come_j66 A_walk_since_j66 A_words_j66 A_listed_j66 hw H locs hP hD hS ls hl => by
            refine lv_aload_n hx hb dX3_letterAt_66 rfl (lv_at hl 0 rfl) ?_
            refine lv_iload_n hx hb dX3_letterAt_67 rfl (lv_at hl 1 rfl) ?_
            refine lv_iload_n hx hb dX3_letterAt_68 rfl (lv_at hl 2 rfl) ?_
            refine ms_cXVi ms_K.blind (fun U hU hW => hX.go hS (fun _ h => h.elim) hU hW) ⟨hx, hb, hml, hown, hts⟩ hK hP hD (c_X3_numberOf l G cI cJ cZ adK adV qB q_t q_t_reader q_t_row q_t_walk q_t_words q_t_listed u5 A_words_j66 p0 p1 hw) gX3_letterAt_X3_numberOf rfl nd_X3_numberOf (ci := 3) rfl rfl rfl ⟨rfl, rfl⟩ rfl ⟨Nat.le_of_ble_eq_true rfl, Nat.le_of_ble_eq_true rfl⟩ hl.1 (rest := []) rfl (Nat.le_of_ble_eq_true rfl)  [0, 9] rfl rfl dX3_letterAt_69 (fun r8 hw => ?_)
            refine lv_istore (lv' := [(4, .int r8), (0, .ref q_t), (1, .int p0), (2, .int p1), (3, .int p2)]) hx hb dX3_letterAt_72 hl (by decide) rfl (fun ls hl => ?_)
            refine lv_iload_n hx hb dX3_letterAt_74 rfl (lv_at hl 2 rfl) ?_
            refine lv_iconst (v := 1) hx hb dX3_letterAt_75 (by decide) ?_
            refine lv_isub hx hb dX3_letterAt_76 ?_
            refine lv_topi (fun x9 ex9 => ?_)
            have hw := hw x9 ex9
            refine lv_istore (lv' := [(5, .int x9), (4, .int r8), (0, .ref q_t), (1, .int p0), (2, .int p1), (3, .int p2)]) hx hb dX3_letterAt_77 hl (by decide) rfl (fun ls hl => ?_)
            have hw := hw (fun i79_4 i79_5 => ∀ (H : Heap) (locs : List Loc), va_P G vwCl [(q_t, .inr (3, [.ref q_t_reader, .ref q_t_row, .ref q_t_walk, .ref q_t_words, .ref q_t_listed, .int u5])), (q_t_reader, .inr (5, [.ref q_t_reader_ways, .int F_reader_states, .int F_reader_marks, .int F_reader_takes, .int F_reader_changes])), (q_t_reader_ways, .inl (cI, 18, .inl A_reader_ways)), (q_t_row, .inr (6, [.ref q_t_row_letters, .ref q_t_row_base, .int F_row_size_j66])), (q_t_row_letters, .inl (cI, 24, .inl A_row_letters_j66)), (q_t_row_base, .inl (cI, 25, .inl A_row_base_j66)), (q_t_walk, .inr (9, [.ref q_t_walk_come, .ref q_t_walk_since, .int F_walk_same_j66])), (q_t_walk_come, .inl (cI, 25, .inl A_walk_come_j66)), (q_t_walk_since, .inl (cI, 25, .inl A_walk_since_j66)), (q_t_words, .inl (cJ, 150, .inr (.inl A_words_j66))), (q_t_listed, .inl (cZ, 6, .inl A_listed_j66))] H → va_D A [(q_t, .inr (3, [.ref q_t_reader, .ref q_t_row, .ref q_t_walk, .ref q_t_words, .ref q_t_listed, .int u5])), (q_t_reader, .inr (5, [.ref q_t_reader_ways, .int F_reader_states, .int F_reader_marks, .int F_reader_takes, .int F_reader_changes])), (q_t_reader_ways, .inl (cI, 18, .inl A_reader_ways)), (q_t_row, .inr (6, [.ref q_t_row_letters, .ref q_t_row_base, .int F_row_size_j66])), (q_t_row_letters, .inl (cI, 24, .inl A_row_letters_j66)), (q_t_row_base, .inl (cI, 25, .inl A_row_base_j66)), (q_t_walk, .inr (9, [.ref q_t_walk_come, .ref q_t_walk_since, .int F_walk_same_j66])), (q_t_walk_come, .inl (cI, 25, .inl A_walk_come_j66)), (q_t_walk_since, .inl (cI, 25, .inl A_walk_since_j66)), (q_t_words, .inl (cJ, 150, .inr (.inl A_words_j66))), (q_t_listed, .inl (cZ, 6, .inl A_listed_j66))] → va_S A s.heap H locs → ∀ ls : Array Slot, lv_has ls 6 [(4, .int i79_4)] → W p l e rmX3_letterAt s m args below meth c H locs 0 0 Q (F0 m 103 ls [])) (fun i79_4 i79_5 hw H locs hP hD hS ls hl => by
              refine lv_iload hx hb dX3_letterAt_103 (lv_at hl 0 rfl) ?_
              refine lv_if_lt (tgt := 116) hx hb dX3_letterAt_105 (by decide) (fun c10 => ?_) (fun c10 => ?_)
              · have hw := hw.1 c10
                refine lv_iconst (v := (-1)) hx hb dX3_letterAt_116 (by decide) ?_
                exact hRet (-1 : Int32) ⟨u5, F_row_size_j66, A_row_letters_j66, A_row_base_j66, F_walk_same_j66, A_walk_come_j66, A_walk_since_j66, A_words_j66, A_listed_j66⟩ H locs _ _ hw (vp_nar_int _) hP hD hS dX3_letterAt_117
              · have hw := hw.2 c10
                refine lv_iload hx hb dX3_letterAt_108 (lv_at hl 0 rfl) ?_
                refine lv_bipush (v := (6)) hx hb dX3_letterAt_110 (by decide) ?_
                refine lv_irem hx hb dX3_letterAt_112 (by decide) ?_
                refine lv_goto (tgt := 117) hx hb dX3_letterAt_113 (by decide) ?_
                exact hRet (i79_4 - i79_4 / (6 : Int32) * (6 : Int32)) ⟨u5, F_row_size_j66, A_row_letters_j66, A_row_base_j66, F_walk_same_j66, A_walk_come_j66, A_walk_since_j66, A_words_j66, A_listed_j66⟩ H locs _ _ hw (vp_nar_int _) hP hD hS dX3_letterAt_117
              )
            refine hw (fun i79_4 i79_5 => ∀ (H : Heap) (locs : List Loc), va_P G vwCl [(q_t, .inr (3, [.ref q_t_reader, .ref q_t_row, .ref q_t_walk, .ref q_t_words, .ref q_t_listed, .int u5])), (q_t_reader, .inr (5, [.ref q_t_reader_ways, .int F_reader_states, .int F_reader_marks, .int F_reader_takes, .int F_reader_changes])), (q_t_reader_ways, .inl (cI, 18, .inl A_reader_ways)), (q_t_row, .inr (6, [.ref q_t_row_letters, .ref q_t_row_base, .int F_row_size_j66])), (q_t_row_letters, .inl (cI, 24, .inl A_row_letters_j66)), (q_t_row_base, .inl (cI, 25, .inl A_row_base_j66)), (q_t_walk, .inr (9, [.ref q_t_walk_come, .ref q_t_walk_since, .int F_walk_same_j66])), (q_t_walk_come, .inl (cI, 25, .inl A_walk_come_j66)), (q_t_walk_since, .inl (cI, 25, .inl A_walk_since_j66)), (q_t_words, .inl (cJ, 150, .inr (.inl A_words_j66))), (q_t_listed, .inl (cZ, 6, .inl A_listed_j66))] H → va_D A [(q_t, .inr (3, [.ref q_t_reader, .ref q_t_row, .ref q_t_walk, .ref q_t_words, .ref q_t_listed, .int u5])), (q_t_reader, .inr (5, [.ref q_t_reader_ways, .int F_reader_states, .int F_reader_marks, .int F_reader_takes, .int F_reader_changes])), (q_t_reader_ways, .inl (cI, 18, .inl A_reader_ways)), (q_t_row, .inr (6, [.ref q_t_row_letters, .ref q_t_row_base, .int F_row_size_j66])), (q_t_row_letters, .inl (cI, 24, .inl A_row_letters_j66)), (q_t_row_base, .inl (cI, 25, .inl A_row_base_j66)), (q_t_walk, .inr (9, [.ref q_t_walk_come, .ref q_t_walk_since, .int F_walk_same_j66])), (q_t_walk_come, .inl (cI, 25, .inl A_walk_come_j66)), (q_t_walk_since, .inl (cI, 25, .inl A_walk_since_j66)), (q_t_words, .inl (cJ, 150, .inr (.inl A_words_j66))), (q_t_listed, .inl (cZ, 6, .inl A_listed_j66))] → va_S A s.heap H locs → ∀ ls : Array Slot, lv_has ls 6 [(3, .int p2), (4, .int i79_4), (5, .int i79_5)] → W p l e rmX3_letterAt s m args below meth c H locs 0 0 Q (F0 m 79 ls [])) (fun i79_4 i79_5 hw H locs hP hD hS ls hl => ?_) H locs hP hD hS ls (lv_sub hl [5, 1, 0] rfl)
            refine lv_iload hx hb dX3_letterAt_79 (lv_at hl 2 rfl) ?_
            refine lv_iload_n hx hb dX3_letterAt_81 rfl (lv_at hl 0 rfl) ?_
            refine lv_icmp_le (tgt := 103) hx hb dX3_letterAt_82 (by decide) (fun c11 => ?_) (fun c11 => ?_)
            · have hw := hw.1 c11
              exact hw H locs hP hD hS ls (lv_sub hl [1] rfl)
            · have hw := hw.2 c11
              refine lv_iload hx hb dX3_letterAt_85 (lv_at hl 1 rfl) ?_
              refine lv_if_lt (tgt := 103) hx hb dX3_letterAt_87 (by decide) (fun c12 => ?_) (fun c12 => ?_)
              · have hw := hw.1 c12
                exact hw H locs hP hD hS ls (lv_sub hl [1] rfl)
              · have hw := hw.2 c12
                refine lv_iload hx hb dX3_letterAt_90 (lv_at hl 1 rfl) ?_
                refine lv_bipush (v := (6)) hx hb dX3_letterAt_92 (by decide) ?_
                refine lv_idiv hx hb dX3_letterAt_94 (by decide) ?_
                refine lv_topi (fun x13 ex13 => ?_)
                have hw := hw x13 ex13
                refine lv_istore (lv' := [(4, .int x13), (3, .int p2), (5, .int i79_5)]) hx hb dX3_letterAt_95 hl (by decide) rfl (fun ls hl => ?_)
                obtain ⟨x14, ex14⟩ : ∃ y : Int32, y = i79_5 + (-1 : Int32) := ⟨_, rfl⟩
                have hw := hw x14 ex14
                refine lv_iinc (v := x14) (lv' := [(5, .int x14), (4, .int x13), (3, .int p2)]) hx hb dX3_letterAt_97 hl (k := 2) rfl (by rw [ex14]; rfl) (by decide) rfl (fun ls hl => ?_)
                refine lv_goto (tgt := 79) hx hb dX3_letterAt_100 (by decide) ?_
                exact hw H locs hP hD hS ls (lv_sub hl [2, 1, 0] rfl)
            )
          refine lv_if_ne (tgt := 66) hx hb dX3_letterAt_30 (by decide) (fun c15 => ?_) (fun c15 => ?_)
          · have hw := hw.2 c15
            exact hw H locs hP hD hS ls (lv_sub hl [0, 1, 2, 3] rfl)
          · have hw := hw.1 c15
            refine lv_aload_n hx hb dX3_letterAt_33 rfl (lv_at hl 0 rfl) ?_
            refine va_get (D := G) (ci := 3) (v := .ref q_t_listed) (C := RX3) (T := TX3) (N := 6) hx hb hts hkX3_letterAt_X3 hown hK hP 0 rfl rfl 4 (by decide) (hts (.fieldLink RX3 29 "NestReaders$Listing" "listed" "[Z") hfX3_letterAt_29) (fun _ h9 => h9) rfl dX3_letterAt_34 ?_
            refine lv_iload_n hx hb dX3_letterAt_37 rfl (lv_at hl 1 rfl) ?_
            refine lv_iconst (v := 1) hx hb dX3_letterAt_38 (by decide) ?_
            refine ms_zast hx hb hK hP hD hS 10 2 rfl rfl hw.1 dX3_letterAt_39 (fun g16 H locs eg16 hP hD hS => ?_)
            have hw := hw.2 g16 eg16
            have hP : va_P G vwCl [(q_t, .inr (3, [.ref q_t_reader, .ref q_t_row, .ref q_t_walk, .ref q_t_words, .ref q_t_listed, .int u5])), (q_t_reader, .inr (5, [.ref q_t_reader_ways, .int F_reader_states, .int F_reader_marks, .int F_reader_takes, .int F_reader_changes])), (q_t_reader_ways, .inl (cI, 18, .inl A_reader_ways)), (q_t_row, .inr (6, [.ref q_t_row_letters, .ref q_t_row_base, .int F_row_size])), (q_t_row_letters, .inl (cI, 24, .inl A_row_letters)), (q_t_row_base, .inl (cI, 25, .inl A_row_base)), (q_t_walk, .inr (9, [.ref q_t_walk_come, .ref q_t_walk_since, .int F_walk_same])), (q_t_walk_come, .inl (cI, 25, .inl A_walk_come)), (q_t_walk_since, .inl (cI, 25, .inl A_walk_since)), (q_t_words, .inl (cJ, 150, .inr (.inl u6))), (q_t_listed, .inl (cZ, 6, .inl g16))] H := hP
            have hD : va_D A [(q_t, .inr (3, [.ref q_t_reader, .ref q_t_row, .ref q_t_walk, .ref q_t_words, .ref q_t_listed, .int u5])), (q_t_reader, .inr (5, [.ref q_t_reader_ways, .int F_reader_states, .int F_reader_marks, .int F_reader_takes, .int F_reader_changes])), (q_t_reader_ways, .inl (cI, 18, .inl A_reader_ways)), (q_t_row, .inr (6, [.ref q_t_row_letters, .ref q_t_row_base, .int F_row_size])), (q_t_row_letters, .inl (cI, 24, .inl A_row_letters)), (q_t_row_base, .inl (cI, 25, .inl A_row_base)), (q_t_walk, .inr (9, [.ref q_t_walk_come, .ref q_t_walk_since, .int F_walk_same])), (q_t_walk_come, .inl (cI, 25, .inl A_walk_come)), (q_t_walk_since, .inl (cI, 25, .inl A_walk_since)), (q_t_words, .inl (cJ, 150, .inr (.inl u6))), (q_t_listed, .inl (cZ, 6, .inl g16))] := hD
            refine lv_aload_n hx hb dX3_letterAt_40 rfl (lv_at hl 0 rfl) ?_
            refine va_get (D := G) (ci := 3) (v := .ref q_t_row) (C := RX3) (T := TX3) (N := 6) hx hb hts hkX3_letterAt_X3 hown hK hP 0 rfl rfl 1 (by decide) (hts (.fieldLink RX3 12 "NestReaders$Listing" "row" "LNestReaders$Row;") hfX3_letterAt_12) (fun _ h9 => h9) rfl dX3_letterAt_41 ?_
            refine lv_iconst (v := 0) hx hb dX3_letterAt_44 (by decide) ?_
            refine ms_mVv (wr := [(q_t, .inr (3, [.ref q_t_reader, .ref q_t_row, .ref q_t_walk, .ref q_t_words, .ref q_t_listed, .int u5])), (q_t_reader, .inr (5, [.ref q_t_reader_ways, .int F_reader_states, .int F_reader_marks, .int F_reader_takes, .int F_reader_changes])), (q_t_reader_ways, .inl (cI, 18, .inl A_reader_ways)), (q_t_row_letters, .inl (cI, 24, .inl A_row_letters)), (q_t_row_base, .inl (cI, 25, .inl A_row_base)), (q_t_walk, .inr (9, [.ref q_t_walk_come, .ref q_t_walk_since, .int F_walk_same])), (q_t_walk_come, .inl (cI, 25, .inl A_walk_come)), (q_t_walk_since, .inl (cI, 25, .inl A_walk_since)), (q_t_words, .inl (cJ, 150, .inr (.inl u6))), (q_t_listed, .inl (cZ, 6, .inl g16))]) ⟨hx, hb, hml, hown, hts⟩ hK hP hD (c_X6_cut l G cI cJ cZ q_t_row q_t_row_letters q_t_row_base H.size F_row_size (0 : Int32) hw) gX3_letterAt_X6_cut rfl nd_X6_cut (ci := 6) rfl rfl rfl ⟨rfl, rfl⟩ rfl ⟨Nat.le_of_ble_eq_true rfl, Nat.le_of_ble_eq_true rfl⟩ hl.1 (rest := []) rfl (Nat.le_of_ble_eq_true rfl)  hS hA [3] [0, 1, 2, 4, 5, 6, 7, 8, 9, 10] rfl rfl rfl (by decide) rfl dX3_letterAt_45 (fun u H locs hw hP hD hS => ?_)
            obtain ⟨u17, rfl⟩ : ∃ z, z = u := ⟨_, rfl⟩
            obtain ⟨hP, hD⟩ : ms_PD G A [(q_t, .inr (3, [.ref q_t_reader, .ref q_t_row, .ref q_t_walk, .ref q_t_words, .ref q_t_listed, .int u5])), (q_t_reader, .inr (5, [.ref q_t_reader_ways, .int F_reader_states, .int F_reader_marks, .int F_reader_takes, .int F_reader_changes])), (q_t_reader_ways, .inl (cI, 18, .inl A_reader_ways)), (q_t_row, .inr (6, [.ref q_t_row_letters, .ref q_t_row_base, .int u17])), (q_t_row_letters, .inl (cI, 24, .inl A_row_letters)), (q_t_row_base, .inl (cI, 25, .inl A_row_base)), (q_t_walk, .inr (9, [.ref q_t_walk_come, .ref q_t_walk_since, .int F_walk_same])), (q_t_walk_come, .inl (cI, 25, .inl A_walk_come)), (q_t_walk_since, .inl (cI, 25, .inl A_walk_since)), (q_t_words, .inl (cJ, 150, .inr (.inl u6))), (q_t_listed, .inl (cZ, 6, .inl g16))] H := ms_PDsub hP hD [0, 1, 2, 10, 3, 4, 5, 6, 7, 8, 9] (by decide +kernel) rfl
            refine lv_aload_n hx hb dX3_letterAt_48 rfl (lv_at hl 0 rfl) ?_
            refine va_get (D := G) (ci := 3) (v := .ref q_t_walk) (C := RX3) (T := TX3) (N := 6) hx hb hts hkX3_letterAt_X3 hown hK hP 0 rfl rfl 2 (by decide) (hts (.fieldLink RX3 21 "NestReaders$Listing" "walk" "LNestReaders$Walk;") hfX3_letterAt_21) (fun _ h9 => h9) rfl dX3_letterAt_49 ?_
            refine lv_aload_n hx hb dX3_letterAt_52 rfl (lv_at hl 0 rfl) ?_
            refine va_get (D := G) (ci := 3) (v := .ref q_t_reader) (C := RX3) (T := TX3) (N := 6) hx hb hts hkX3_letterAt_X3 hown hK hP 0 rfl rfl 0 (by decide) (hts (.fieldLink RX3 37 "NestReaders$Listing" "reader" "LNestReaders$Reader;") hfX3_letterAt_37) (fun _ h9 => h9) rfl dX3_letterAt_53 ?_
            refine ms_mVv (wr := [(q_t, .inr (3, [.ref q_t_reader, .ref q_t_row, .ref q_t_walk, .ref q_t_words, .ref q_t_listed, .int u5])), (q_t_reader_ways, .inl (cI, 18, .inl A_reader_ways)), (q_t_row, .inr (6, [.ref q_t_row_letters, .ref q_t_row_base, .int u17])), (q_t_row_letters, .inl (cI, 24, .inl A_row_letters)), (q_t_row_base, .inl (cI, 25, .inl A_row_base)), (q_t_words, .inl (cJ, 150, .inr (.inl u6))), (q_t_listed, .inl (cZ, 6, .inl g16))]) ⟨hx, hb, hml, hown, hts⟩ hK hP hD (c_X9_begin l G cI cJ cZ q_t_walk q_t_walk_come q_t_walk_since q_t_reader q_t_reader_ways H.size F_walk_same A_walk_come A_walk_since F_reader_states F_reader_marks F_reader_takes F_reader_changes hw) gX3_letterAt_X9_begin rfl nd_X9_begin (ci := 9) rfl rfl rfl ⟨rfl, rfl⟩ rfl ⟨Nat.le_of_ble_eq_true rfl, Nat.le_of_ble_eq_true rfl⟩ hl.1 (rest := []) rfl (Nat.le_of_ble_eq_true rfl)  hS hA [6, 7, 8, 1] [0, 2, 3, 4, 5, 9, 10] rfl rfl rfl (by decide) rfl dX3_letterAt_56 (fun u H locs hw hP hD hS => ?_)
            obtain ⟨u18, u19, u20⟩ := u
            obtain ⟨hP, hD⟩ : ms_PD G A [(q_t, .inr (3, [.ref q_t_reader, .ref q_t_row, .ref q_t_walk, .ref q_t_words, .ref q_t_listed, .int u5])), (q_t_reader, .inr (5, [.ref q_t_reader_ways, .int F_reader_states, .int F_reader_marks, .int F_reader_takes, .int F_reader_changes])), (q_t_reader_ways, .inl (cI, 18, .inl A_reader_ways)), (q_t_row, .inr (6, [.ref q_t_row_letters, .ref q_t_row_base, .int u17])), (q_t_row_letters, .inl (cI, 24, .inl A_row_letters)), (q_t_row_base, .inl (cI, 25, .inl A_row_base)), (q_t_walk, .inr (9, [.ref q_t_walk_come, .ref q_t_walk_since, .int u18])), (q_t_walk_come, .inl (cI, 25, .inl u19)), (q_t_walk_since, .inl (cI, 25, .inl u20)), (q_t_words, .inl (cJ, 150, .inr (.inl u6))), (q_t_listed, .inl (cZ, 6, .inl g16))] H := ms_PDsub hP hD [0, 10, 1, 2, 3, 4, 7, 8, 9, 5, 6] (by decide +kernel) rfl
            refine lv_aload_n hx hb dX3_letterAt_59 rfl (lv_at hl 0 rfl) ?_
            refine lv_iconst (v := 0) hx hb dX3_letterAt_60 (by decide) ?_
            refine lv_iconst (v := 0) hx hb dX3_letterAt_61 (by decide) ?_
            refine lv_iload_n hx hb dX3_letterAt_62 rfl (lv_at hl 1 rfl) ?_
            refine ms_mXSv (wr := [(q_t_listed, .inl (cZ, 6, .inl g16))]) ms_K.blind (fun U hU hW => hX.go hS (va_free hD hS hA [0, 1, 2, 3, 4, 5, 6, 7, 8, 9] rfl) hU hW) ⟨hx, hb, hml, hown, hts⟩ hK hP hD (c_X3_grow l G cI cJ cZ adK adV qB 7 q_t q_t_reader q_t_row q_t_walk q_t_words q_t_listed q_t_reader_ways q_t_row_letters q_t_row_base q_t_walk_come q_t_walk_since H.size u5 F_reader_states F_reader_marks F_reader_takes F_reader_changes A_reader_ways u17 A_row_letters A_row_base u18 u19 u20 u6 (0 : Int32) (0 : Int32) p0 hw) gX3_letterAt_X3_grow rfl nd_X3_grow ⟨rfl, rfl⟩ rfl ⟨Nat.le_of_ble_eq_true rfl, Nat.le_of_ble_eq_true rfl⟩ hl.1 (rest := []) rfl (Nat.le_of_ble_eq_true rfl)  hS hA [0, 1, 2, 3, 4, 5, 6, 7, 8, 9] [10] rfl rfl rfl (by decide) rfl dX3_letterAt_63 (fun u H locs hw hP hD hS => ?_)
            obtain ⟨u21, u22, u23, u24, u25, u26⟩ := u
            obtain ⟨hP, hD⟩ : ms_PD G A [(q_t, .inr (3, [.ref q_t_reader, .ref q_t_row, .ref q_t_walk, .ref q_t_words, .ref q_t_listed, .int u5])), (q_t_reader, .inr (5, [.ref q_t_reader_ways, .int F_reader_states, .int F_reader_marks, .int F_reader_takes, .int F_reader_changes])), (q_t_reader_ways, .inl (cI, 18, .inl A_reader_ways)), (q_t_row, .inr (6, [.ref q_t_row_letters, .ref q_t_row_base, .int u21])), (q_t_row_letters, .inl (cI, 24, .inl u22)), (q_t_row_base, .inl (cI, 25, .inl u23)), (q_t_walk, .inr (9, [.ref q_t_walk_come, .ref q_t_walk_since, .int u18])), (q_t_walk_come, .inl (cI, 25, .inl u24)), (q_t_walk_since, .inl (cI, 25, .inl u25)), (q_t_words, .inl (cJ, 150, .inr (.inl u26))), (q_t_listed, .inl (cZ, 6, .inl g16))] H := ms_PDsub hP hD [1, 2, 3, 4, 5, 6, 7, 8, 9, 10, 0] (by decide +kernel) rfl
            exact hw H locs hP hD hS ls (lv_sub hl [0, 1, 2, 3] rfl)
        · have hw := hw.2 c4
          refine lv_iconst (v := (-1)) hx hb dX3_letterAt_18 (by decide) ?_
          exact hRet (-1 : Int32) ⟨F_seen, F_row_size, A_row_letters, A_row_base, F_walk_same, A_walk_come, A_walk_since, A_words, A_listed⟩ s.heap [] _ _ hw (vp_nar_int _) hP hD hS dX3_letterAt_19
