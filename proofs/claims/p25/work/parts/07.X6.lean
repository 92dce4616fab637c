theorem dX6_init_0 : decode cX6_init 0 = .ok (.aload_n 0, 1) := by decide +kernel
theorem dX6_init_1 : decode cX6_init 1 = .ok (.invokespecial 3, 3) := by decide +kernel
theorem dX6_init_4 : decode cX6_init 4 = .ok (.aload_n 0, 1) := by decide +kernel
theorem dX6_init_5 : decode cX6_init 5 = .ok (.bipush 24, 2) := by decide +kernel
theorem dX6_init_7 : decode cX6_init 7 = .ok (.newarray .int, 2) := by decide +kernel
theorem dX6_init_9 : decode cX6_init 9 = .ok (.putfield 9, 3) := by decide +kernel
theorem dX6_init_12 : decode cX6_init 12 = .ok (.aload_n 0, 1) := by decide +kernel
theorem dX6_init_13 : decode cX6_init 13 = .ok (.bipush 25, 2) := by decide +kernel
theorem dX6_init_15 : decode cX6_init 15 = .ok (.newarray .int, 2) := by decide +kernel
theorem dX6_init_17 : decode cX6_init 17 = .ok (.putfield 15, 3) := by decide +kernel
theorem dX6_init_20 : decode cX6_init 20 = .ok (.aload_n 0, 1) := by decide +kernel
theorem dX6_init_21 : decode cX6_init 21 = .ok (.iconst 0, 1) := by decide +kernel
theorem dX6_init_22 : decode cX6_init 22 = .ok (.putfield 18, 3) := by decide +kernel
theorem dX6_init_25 : decode cX6_init 25 = .ok (.return_, 1) := by decide +kernel
theorem dX6_size_0 : decode cX6_size 0 = .ok (.aload_n 0, 1) := by decide +kernel
theorem dX6_size_1 : decode cX6_size 1 = .ok (.getfield 18, 3) := by decide +kernel
theorem dX6_size_4 : decode cX6_size 4 = .ok (.ireturn, 1) := by decide +kernel
theorem dX6_cut_0 : decode cX6_cut 0 = .ok (.iload_n 1, 1) := by decide +kernel
theorem dX6_cut_1 : decode cX6_cut 1 = .ok (.ifCond .lt 16, 3) := by decide +kernel
theorem dX6_cut_4 : decode cX6_cut 4 = .ok (.iload_n 1, 1) := by decide +kernel
theorem dX6_cut_5 : decode cX6_cut 5 = .ok (.aload_n 0, 1) := by decide +kernel
theorem dX6_cut_6 : decode cX6_cut 6 = .ok (.getfield 18, 3) := by decide +kernel
theorem dX6_cut_9 : decode cX6_cut 9 = .ok (.if_icmp .ge 8, 3) := by decide +kernel
theorem dX6_cut_12 : decode cX6_cut 12 = .ok (.aload_n 0, 1) := by decide +kernel
theorem dX6_cut_13 : decode cX6_cut 13 = .ok (.iload_n 1, 1) := by decide +kernel
theorem dX6_cut_14 : decode cX6_cut 14 = .ok (.putfield 18, 3) := by decide +kernel
theorem dX6_cut_17 : decode cX6_cut 17 = .ok (.return_, 1) := by decide +kernel
theorem ggX6_append_X6_openAt : GoodIn wsX6_append wsX6_openAt := gdC (gd1 m23_13)
theorem gX6_append_X6_openAt : GoodIn wsX6_append (wsV RX6 22 RX6 yX6_openAt wsX6_openAt) := gdC (gd4 m23_10 m23_11 m23_12 m2_0 m23_13)
theorem ggX6_append_X5_isPlain : GoodIn wsX6_append wsX5_isPlain := gdC (gd1 m17_10)
theorem gX6_append_X5_isPlain : GoodIn wsX6_append (va_wsS RX6 26 yX5_isPlain wsX5_isPlain) := gdC (gd3 m23_23 m17_9 m1_15 m17_10)
theorem ggX6_append_X5_closes : GoodIn wsX6_append wsX5_closes := gdC (gd1 m14_6)
theorem gX6_append_X5_closes : GoodIn wsX6_append (va_wsS RX6 32 yX5_closes wsX5_closes) := gdC (gd3 m24_0 m14_5 m1_15 m14_6)
theorem dX6_append_0 : decode cX6_append 0 = .ok (.aload_n 0, 1) := by decide +kernel
theorem dX6_append_1 : decode cX6_append 1 = .ok (.getfield 18, 3) := by decide +kernel
theorem dX6_append_4 : decode cX6_append 4 = .ok (.bipush 24, 2) := by decide +kernel
theorem dX6_append_6 : decode cX6_append 6 = .ok (.if_icmp .lt 4, 3) := by decide +kernel
theorem dX6_append_9 : decode cX6_append 9 = .ok (.return_, 1) := by decide +kernel
theorem dX6_append_10 : decode cX6_append 10 = .ok (.aload_n 0, 1) := by decide +kernel
theorem dX6_append_11 : decode cX6_append 11 = .ok (.aload_n 0, 1) := by decide +kernel
theorem dX6_append_12 : decode cX6_append 12 = .ok (.getfield 18, 3) := by decide +kernel
theorem dX6_append_15 : decode cX6_append 15 = .ok (.invokevirtual 22, 3) := by decide +kernel
theorem dX6_append_18 : decode cX6_append 18 = .ok (.istore_n 2, 1) := by decide +kernel
theorem dX6_append_19 : decode cX6_append 19 = .ok (.aload_n 0, 1) := by decide +kernel
theorem dX6_append_20 : decode cX6_append 20 = .ok (.getfield 9, 3) := by decide +kernel
theorem dX6_append_23 : decode cX6_append 23 = .ok (.aload_n 0, 1) := by decide +kernel
theorem dX6_append_24 : decode cX6_append 24 = .ok (.getfield 18, 3) := by decide +kernel
theorem dX6_append_27 : decode cX6_append 27 = .ok (.iload_n 1, 1) := by decide +kernel
theorem dX6_append_28 : decode cX6_append 28 = .ok (.iastore, 1) := by decide +kernel
theorem dX6_append_29 : decode cX6_append 29 = .ok (.aload_n 0, 1) := by decide +kernel
theorem dX6_append_30 : decode cX6_append 30 = .ok (.dup, 1) := by decide +kernel
theorem dX6_append_31 : decode cX6_append 31 = .ok (.getfield 18, 3) := by decide +kernel
theorem dX6_append_34 : decode cX6_append 34 = .ok (.iconst 1, 1) := by decide +kernel
theorem dX6_append_35 : decode cX6_append 35 = .ok (.iadd, 1) := by decide +kernel
theorem dX6_append_36 : decode cX6_append 36 = .ok (.putfield 18, 3) := by decide +kernel
theorem dX6_append_39 : decode cX6_append 39 = .ok (.iload_n 1, 1) := by decide +kernel
theorem dX6_append_40 : decode cX6_append 40 = .ok (.invokestatic 26, 3) := by decide +kernel
theorem dX6_append_43 : decode cX6_append 43 = .ok (.ifCond .eq 26, 3) := by decide +kernel
theorem dX6_append_46 : decode cX6_append 46 = .ok (.aload_n 0, 1) := by decide +kernel
theorem dX6_append_47 : decode cX6_append 47 = .ok (.getfield 15, 3) := by decide +kernel
theorem dX6_append_50 : decode cX6_append 50 = .ok (.aload_n 0, 1) := by decide +kernel
theorem dX6_append_51 : decode cX6_append 51 = .ok (.getfield 18, 3) := by decide +kernel
theorem dX6_append_54 : decode cX6_append 54 = .ok (.aload_n 0, 1) := by decide +kernel
theorem dX6_append_55 : decode cX6_append 55 = .ok (.getfield 15, 3) := by decide +kernel
theorem dX6_append_58 : decode cX6_append 58 = .ok (.aload_n 0, 1) := by decide +kernel
theorem dX6_append_59 : decode cX6_append 59 = .ok (.getfield 18, 3) := by decide +kernel
theorem dX6_append_62 : decode cX6_append 62 = .ok (.iconst 1, 1) := by decide +kernel
theorem dX6_append_63 : decode cX6_append 63 = .ok (.isub, 1) := by decide +kernel
theorem dX6_append_64 : decode cX6_append 64 = .ok (.iaload, 1) := by decide +kernel
theorem dX6_append_65 : decode cX6_append 65 = .ok (.iastore, 1) := by decide +kernel
theorem dX6_append_66 : decode cX6_append 66 = .ok (.goto 46, 3) := by decide +kernel
theorem dX6_append_69 : decode cX6_append 69 = .ok (.iload_n 1, 1) := by decide +kernel
theorem dX6_append_70 : decode cX6_append 70 = .ok (.invokestatic 32, 3) := by decide +kernel
theorem dX6_append_73 : decode cX6_append 73 = .ok (.ifCond .eq 26, 3) := by decide +kernel
theorem dX6_append_76 : decode cX6_append 76 = .ok (.iload_n 2, 1) := by decide +kernel
theorem dX6_append_77 : decode cX6_append 77 = .ok (.iconst (-1), 1) := by decide +kernel
theorem dX6_append_78 : decode cX6_append 78 = .ok (.if_icmp .eq 21, 3) := by decide +kernel
theorem dX6_append_81 : decode cX6_append 81 = .ok (.aload_n 0, 1) := by decide +kernel
theorem dX6_append_82 : decode cX6_append 82 = .ok (.getfield 15, 3) := by decide +kernel
theorem dX6_append_85 : decode cX6_append 85 = .ok (.aload_n 0, 1) := by decide +kernel
theorem dX6_append_86 : decode cX6_append 86 = .ok (.getfield 18, 3) := by decide +kernel
theorem dX6_append_89 : decode cX6_append 89 = .ok (.aload_n 0, 1) := by decide +kernel
theorem dX6_append_90 : decode cX6_append 90 = .ok (.getfield 15, 3) := by decide +kernel
theorem dX6_append_93 : decode cX6_append 93 = .ok (.iload_n 2, 1) := by decide +kernel
theorem dX6_append_94 : decode cX6_append 94 = .ok (.iaload, 1) := by decide +kernel
theorem dX6_append_95 : decode cX6_append 95 = .ok (.iastore, 1) := by decide +kernel
theorem dX6_append_96 : decode cX6_append 96 = .ok (.goto 16, 3) := by decide +kernel
theorem dX6_append_99 : decode cX6_append 99 = .ok (.aload_n 0, 1) := by decide +kernel
theorem dX6_append_100 : decode cX6_append 100 = .ok (.getfield 15, 3) := by decide +kernel
theorem dX6_append_103 : decode cX6_append 103 = .ok (.aload_n 0, 1) := by decide +kernel
theorem dX6_append_104 : decode cX6_append 104 = .ok (.getfield 18, 3) := by decide +kernel
theorem dX6_append_107 : decode cX6_append 107 = .ok (.aload_n 0, 1) := by decide +kernel
theorem dX6_append_108 : decode cX6_append 108 = .ok (.getfield 18, 3) := by decide +kernel
theorem dX6_append_111 : decode cX6_append 111 = .ok (.iastore, 1) := by decide +kernel
theorem dX6_append_112 : decode cX6_append 112 = .ok (.return_, 1) := by decide +kernel
theorem dX6_letterAt_0 : decode cX6_letterAt 0 = .ok (.iload_n 1, 1) := by decide +kernel
theorem dX6_letterAt_1 : decode cX6_letterAt 1 = .ok (.ifCond .lt 20, 3) := by decide +kernel
theorem dX6_letterAt_4 : decode cX6_letterAt 4 = .ok (.iload_n 1, 1) := by decide +kernel
theorem dX6_letterAt_5 : decode cX6_letterAt 5 = .ok (.aload_n 0, 1) := by decide +kernel
theorem dX6_letterAt_6 : decode cX6_letterAt 6 = .ok (.getfield 18, 3) := by decide +kernel
theorem dX6_letterAt_9 : decode cX6_letterAt 9 = .ok (.if_icmp .ge 12, 3) := by decide +kernel
theorem dX6_letterAt_12 : decode cX6_letterAt 12 = .ok (.aload_n 0, 1) := by decide +kernel
theorem dX6_letterAt_13 : decode cX6_letterAt 13 = .ok (.getfield 9, 3) := by decide +kernel
theorem dX6_letterAt_16 : decode cX6_letterAt 16 = .ok (.iload_n 1, 1) := by decide +kernel
theorem dX6_letterAt_17 : decode cX6_letterAt 17 = .ok (.iaload, 1) := by decide +kernel
theorem dX6_letterAt_18 : decode cX6_letterAt 18 = .ok (.goto 4, 3) := by decide +kernel
theorem dX6_letterAt_21 : decode cX6_letterAt 21 = .ok (.iconst (-1), 1) := by decide +kernel
theorem dX6_letterAt_22 : decode cX6_letterAt 22 = .ok (.ireturn, 1) := by decide +kernel
theorem dX6_baseAt_0 : decode cX6_baseAt 0 = .ok (.iload_n 1, 1) := by decide +kernel
theorem dX6_baseAt_1 : decode cX6_baseAt 1 = .ok (.ifCond .lt 20, 3) := by decide +kernel
theorem dX6_baseAt_4 : decode cX6_baseAt 4 = .ok (.iload_n 1, 1) := by decide +kernel
theorem dX6_baseAt_5 : decode cX6_baseAt 5 = .ok (.aload_n 0, 1) := by decide +kernel
theorem dX6_baseAt_6 : decode cX6_baseAt 6 = .ok (.getfield 18, 3) := by decide +kernel
theorem dX6_baseAt_9 : decode cX6_baseAt 9 = .ok (.if_icmp .gt 12, 3) := by decide +kernel
theorem dX6_baseAt_12 : decode cX6_baseAt 12 = .ok (.aload_n 0, 1) := by decide +kernel
theorem dX6_baseAt_13 : decode cX6_baseAt 13 = .ok (.getfield 15, 3) := by decide +kernel
theorem dX6_baseAt_16 : decode cX6_baseAt 16 = .ok (.iload_n 1, 1) := by decide +kernel
theorem dX6_baseAt_17 : decode cX6_baseAt 17 = .ok (.iaload, 1) := by decide +kernel
theorem dX6_baseAt_18 : decode cX6_baseAt 18 = .ok (.goto 4, 3) := by decide +kernel
theorem dX6_baseAt_21 : decode cX6_baseAt 21 = .ok (.iconst 0, 1) := by decide +kernel
theorem dX6_baseAt_22 : decode cX6_baseAt 22 = .ok (.ireturn, 1) := by decide +kernel
theorem ggX6_openAt_X6_baseAt : GoodIn wsX6_openAt wsX6_baseAt := gdC (gd1 m23_17)
theorem gX6_openAt_X6_baseAt : GoodIn wsX6_openAt (wsV RX6 35 RX6 yX6_baseAt wsX6_baseAt) := gdC (gd4 m23_14 m23_15 m23_16 m2_0 m23_17)
theorem ggX6_openAt_X6_letterAt : GoodIn wsX6_openAt wsX6_letterAt := gdC (gd1 m23_21)
theorem gX6_openAt_X6_letterAt : GoodIn wsX6_openAt (wsV RX6 38 RX6 yX6_letterAt wsX6_letterAt) := gdC (gd4 m23_18 m23_19 m23_20 m2_0 m23_21)
theorem ggX6_openAt_X5_opens : GoodIn wsX6_openAt wsX5_opens := gdC (gd1 m16_22)
theorem gX6_openAt_X5_opens : GoodIn wsX6_openAt (va_wsS RX6 41 yX5_opens wsX5_opens) := gdC (gd3 m23_22 m16_21 m1_15 m16_22)
theorem dX6_openAt_0 : decode cX6_openAt 0 = .ok (.aload_n 0, 1) := by decide +kernel
theorem dX6_openAt_1 : decode cX6_openAt 1 = .ok (.iload_n 1, 1) := by decide +kernel
theorem dX6_openAt_2 : decode cX6_openAt 2 = .ok (.invokevirtual 35, 3) := by decide +kernel
theorem dX6_openAt_5 : decode cX6_openAt 5 = .ok (.iconst 1, 1) := by decide +kernel
theorem dX6_openAt_6 : decode cX6_openAt 6 = .ok (.isub, 1) := by decide +kernel
theorem dX6_openAt_7 : decode cX6_openAt 7 = .ok (.istore_n 2, 1) := by decide +kernel
theorem dX6_openAt_8 : decode cX6_openAt 8 = .ok (.iload_n 2, 1) := by decide +kernel
theorem dX6_openAt_9 : decode cX6_openAt 9 = .ok (.ifCond .lt 18, 3) := by decide +kernel
theorem dX6_openAt_12 : decode cX6_openAt 12 = .ok (.aload_n 0, 1) := by decide +kernel
theorem dX6_openAt_13 : decode cX6_openAt 13 = .ok (.iload_n 2, 1) := by decide +kernel
theorem dX6_openAt_14 : decode cX6_openAt 14 = .ok (.invokevirtual 38, 3) := by decide +kernel
theorem dX6_openAt_17 : decode cX6_openAt 17 = .ok (.invokestatic 41, 3) := by decide +kernel
theorem dX6_openAt_20 : decode cX6_openAt 20 = .ok (.ifCond .eq 7, 3) := by decide +kernel
theorem dX6_openAt_23 : decode cX6_openAt 23 = .ok (.iload_n 2, 1) := by decide +kernel
theorem dX6_openAt_24 : decode cX6_openAt 24 = .ok (.goto 4, 3) := by decide +kernel
theorem dX6_openAt_27 : decode cX6_openAt 27 = .ok (.iconst (-1), 1) := by decide +kernel
theorem dX6_openAt_28 : decode cX6_openAt 28 = .ok (.ireturn, 1) := by decide +kernel
theorem dX6_isWhole_0 : decode cX6_isWhole 0 = .ok (.aload_n 0, 1) := by decide +kernel
theorem dX6_isWhole_1 : decode cX6_isWhole 1 = .ok (.getfield 15, 3) := by decide +kernel
theorem dX6_isWhole_4 : decode cX6_isWhole 4 = .ok (.aload_n 0, 1) := by decide +kernel
theorem dX6_isWhole_5 : decode cX6_isWhole 5 = .ok (.getfield 18, 3) := by decide +kernel
theorem dX6_isWhole_8 : decode cX6_isWhole 8 = .ok (.iaload, 1) := by decide +kernel
theorem dX6_isWhole_9 : decode cX6_isWhole 9 = .ok (.ifCond .ne 7, 3) := by decide +kernel
theorem dX6_isWhole_12 : decode cX6_isWhole 12 = .ok (.iconst 1, 1) := by decide +kernel
theorem dX6_isWhole_13 : decode cX6_isWhole 13 = .ok (.goto 4, 3) := by decide +kernel
theorem dX6_isWhole_16 : decode cX6_isWhole 16 = .ok (.iconst 0, 1) := by decide +kernel
theorem dX6_isWhole_17 : decode cX6_isWhole 17 = .ok (.ireturn, 1) := by decide +kernel
theorem ggX6_depthBehind_X6_openAt : GoodIn wsX6_depthBehind wsX6_openAt := gdC (gd1 m23_13)
theorem gX6_depthBehind_X6_openAt : GoodIn wsX6_depthBehind (wsV RX6 22 RX6 yX6_openAt wsX6_openAt) := gdC (gd4 m23_10 m23_11 m23_12 m2_0 m23_13)
theorem dX6_depthBehind_0 : decode cX6_depthBehind 0 = .ok (.iconst 0, 1) := by decide +kernel
theorem dX6_depthBehind_1 : decode cX6_depthBehind 1 = .ok (.istore_n 2, 1) := by decide +kernel
theorem dX6_depthBehind_2 : decode cX6_depthBehind 2 = .ok (.aload_n 0, 1) := by decide +kernel
theorem dX6_depthBehind_3 : decode cX6_depthBehind 3 = .ok (.iload_n 1, 1) := by decide +kernel
theorem dX6_depthBehind_4 : decode cX6_depthBehind 4 = .ok (.invokevirtual 22, 3) := by decide +kernel
theorem dX6_depthBehind_7 : decode cX6_depthBehind 7 = .ok (.istore_n 3, 1) := by decide +kernel
theorem dX6_depthBehind_8 : decode cX6_depthBehind 8 = .ok (.iload_n 3, 1) := by decide +kernel
theorem dX6_depthBehind_9 : decode cX6_depthBehind 9 = .ok (.iconst (-1), 1) := by decide +kernel
theorem dX6_depthBehind_10 : decode cX6_depthBehind 10 = .ok (.if_icmp .eq 21, 3) := by decide +kernel
theorem dX6_depthBehind_13 : decode cX6_depthBehind 13 = .ok (.iload_n 2, 1) := by decide +kernel
theorem dX6_depthBehind_14 : decode cX6_depthBehind 14 = .ok (.bipush 24, 2) := by decide +kernel
theorem dX6_depthBehind_16 : decode cX6_depthBehind 16 = .ok (.if_icmp .ge 15, 3) := by decide +kernel
theorem dX6_depthBehind_19 : decode cX6_depthBehind 19 = .ok (.iinc 2 1, 3) := by decide +kernel
theorem dX6_depthBehind_22 : decode cX6_depthBehind 22 = .ok (.aload_n 0, 1) := by decide +kernel
theorem dX6_depthBehind_23 : decode cX6_depthBehind 23 = .ok (.iload_n 3, 1) := by decide +kernel
theorem dX6_depthBehind_24 : decode cX6_depthBehind 24 = .ok (.invokevirtual 22, 3) := by decide +kernel
theorem dX6_depthBehind_27 : decode cX6_depthBehind 27 = .ok (.istore_n 3, 1) := by decide +kernel
theorem dX6_depthBehind_28 : decode cX6_depthBehind 28 = .ok (.goto (-20), 3) := by decide +kernel
theorem dX6_depthBehind_31 : decode cX6_depthBehind 31 = .ok (.iload_n 2, 1) := by decide +kernel
theorem dX6_depthBehind_32 : decode cX6_depthBehind 32 = .ok (.ireturn, 1) := by decide +kernel
theorem ggX6_partnerOf_X6_letterAt : GoodIn wsX6_partnerOf wsX6_letterAt := gdC (gd1 m23_21)
theorem gX6_partnerOf_X6_letterAt : GoodIn wsX6_partnerOf (wsV RX6 38 RX6 yX6_letterAt wsX6_letterAt) := gdC (gd4 m23_18 m23_19 m23_20 m2_0 m23_21)
theorem ggX6_partnerOf_X5_closes : GoodIn wsX6_partnerOf wsX5_closes := gdC (gd1 m14_6)
theorem gX6_partnerOf_X5_closes : GoodIn wsX6_partnerOf (va_wsS RX6 32 yX5_closes wsX5_closes) := gdC (gd3 m24_0 m14_5 m1_15 m14_6)
theorem ggX6_partnerOf_X6_openAt : GoodIn wsX6_partnerOf wsX6_openAt := gdC (gd1 m23_13)
theorem gX6_partnerOf_X6_openAt : GoodIn wsX6_partnerOf (wsV RX6 22 RX6 yX6_openAt wsX6_openAt) := gdC (gd4 m23_10 m23_11 m23_12 m2_0 m23_13)
theorem ggX6_partnerOf_X5_opens : GoodIn wsX6_partnerOf wsX5_opens := gdC (gd1 m16_22)
theorem gX6_partnerOf_X5_opens : GoodIn wsX6_partnerOf (va_wsS RX6 41 yX5_opens wsX5_opens) := gdC (gd3 m23_22 m16_21 m1_15 m16_22)
theorem dX6_partnerOf_0 : decode cX6_partnerOf 0 = .ok (.aload_n 0, 1) := by decide +kernel
theorem dX6_partnerOf_1 : decode cX6_partnerOf 1 = .ok (.iload_n 1, 1) := by decide +kernel
theorem dX6_partnerOf_2 : decode cX6_partnerOf 2 = .ok (.invokevirtual 38, 3) := by decide +kernel
theorem dX6_partnerOf_5 : decode cX6_partnerOf 5 = .ok (.istore_n 2, 1) := by decide +kernel
theorem dX6_partnerOf_6 : decode cX6_partnerOf 6 = .ok (.iload_n 2, 1) := by decide +kernel
theorem dX6_partnerOf_7 : decode cX6_partnerOf 7 = .ok (.invokestatic 32, 3) := by decide +kernel
theorem dX6_partnerOf_10 : decode cX6_partnerOf 10 = .ok (.ifCond .eq 9, 3) := by decide +kernel
theorem dX6_partnerOf_13 : decode cX6_partnerOf 13 = .ok (.aload_n 0, 1) := by decide +kernel
theorem dX6_partnerOf_14 : decode cX6_partnerOf 14 = .ok (.iload_n 1, 1) := by decide +kernel
theorem dX6_partnerOf_15 : decode cX6_partnerOf 15 = .ok (.invokevirtual 22, 3) := by decide +kernel
theorem dX6_partnerOf_18 : decode cX6_partnerOf 18 = .ok (.ireturn, 1) := by decide +kernel
theorem dX6_partnerOf_19 : decode cX6_partnerOf 19 = .ok (.iload_n 1, 1) := by decide +kernel
theorem dX6_partnerOf_20 : decode cX6_partnerOf 20 = .ok (.iconst 1, 1) := by decide +kernel
theorem dX6_partnerOf_21 : decode cX6_partnerOf 21 = .ok (.iadd, 1) := by decide +kernel
theorem dX6_partnerOf_22 : decode cX6_partnerOf 22 = .ok (.istore_n 3, 1) := by decide +kernel
theorem dX6_partnerOf_23 : decode cX6_partnerOf 23 = .ok (.iload_n 3, 1) := by decide +kernel
theorem dX6_partnerOf_24 : decode cX6_partnerOf 24 = .ok (.aload_n 0, 1) := by decide +kernel
theorem dX6_partnerOf_25 : decode cX6_partnerOf 25 = .ok (.getfield 18, 3) := by decide +kernel
theorem dX6_partnerOf_28 : decode cX6_partnerOf 28 = .ok (.if_icmp .ge 38, 3) := by decide +kernel
theorem dX6_partnerOf_31 : decode cX6_partnerOf 31 = .ok (.iload_n 2, 1) := by decide +kernel
theorem dX6_partnerOf_32 : decode cX6_partnerOf 32 = .ok (.invokestatic 41, 3) := by decide +kernel
theorem dX6_partnerOf_35 : decode cX6_partnerOf 35 = .ok (.ifCond .eq 31, 3) := by decide +kernel
theorem dX6_partnerOf_38 : decode cX6_partnerOf 38 = .ok (.aload_n 0, 1) := by decide +kernel
theorem dX6_partnerOf_39 : decode cX6_partnerOf 39 = .ok (.iload_n 3, 1) := by decide +kernel
theorem dX6_partnerOf_40 : decode cX6_partnerOf 40 = .ok (.invokevirtual 38, 3) := by decide +kernel
theorem dX6_partnerOf_43 : decode cX6_partnerOf 43 = .ok (.invokestatic 32, 3) := by decide +kernel
theorem dX6_partnerOf_46 : decode cX6_partnerOf 46 = .ok (.ifCond .eq 14, 3) := by decide +kernel
theorem dX6_partnerOf_49 : decode cX6_partnerOf 49 = .ok (.aload_n 0, 1) := by decide +kernel
theorem dX6_partnerOf_50 : decode cX6_partnerOf 50 = .ok (.iload_n 3, 1) := by decide +kernel
theorem dX6_partnerOf_51 : decode cX6_partnerOf 51 = .ok (.invokevirtual 22, 3) := by decide +kernel
theorem dX6_partnerOf_54 : decode cX6_partnerOf 54 = .ok (.iload_n 1, 1) := by decide +kernel
theorem dX6_partnerOf_55 : decode cX6_partnerOf 55 = .ok (.if_icmp .ne 5, 3) := by decide +kernel
theorem dX6_partnerOf_58 : decode cX6_partnerOf 58 = .ok (.iload_n 3, 1) := by decide +kernel
theorem dX6_partnerOf_59 : decode cX6_partnerOf 59 = .ok (.ireturn, 1) := by decide +kernel
theorem dX6_partnerOf_60 : decode cX6_partnerOf 60 = .ok (.iinc 3 1, 3) := by decide +kernel
theorem dX6_partnerOf_63 : decode cX6_partnerOf 63 = .ok (.goto (-40), 3) := by decide +kernel
theorem dX6_partnerOf_66 : decode cX6_partnerOf 66 = .ok (.iconst (-1), 1) := by decide +kernel
theorem dX6_partnerOf_67 : decode cX6_partnerOf 67 = .ok (.ireturn, 1) := by decide +kernel
def wX6_size (F_size : Int32) (K : Int32 → Prop) : Prop :=
  K F_size
abbrev rmX6_size : Room := { frames := 0, cells := 0, slots := 0, locals := 0 }
theorem nd_X6_size : yX6_size.cls = RX6 ∧ yX6_size.cls ≠ "java/lang/invoke/MethodHandle" ∧ yX6_size.cls ≠ "java/lang/invoke/VarHandle" ∧ (parseMethodDescriptor yX6_size.desc).map (fun d => d.parameters.length) = some 0 := by decide +kernel
theorem hkX6_size_X6 : ∀ w ∈ u_ws RX6 TX6 3, w ∈ wsX6_size := fun w h => List.mem_cons_of_mem _ (inlX6 w h)
theorem hfX6_size_18 : (Cond.fieldLink RX6 18 "NestReaders$Row" "size" "I") ∈ wsX6_size := List.mem_cons_of_mem _ m4_12
set_option maxHeartbeats 4000000 in
set_option maxRecDepth 100000 in
theorem c_X6_size (l : Launch) (G : va_G) (cI cJ cZ : ClassId) (q_t q_t_letters q_t_base : Nat) (F_size : Int32) {K : Int32 → Prop} (hw : wX6_size F_size K) : Met l yX6_size wsX6_size rmX6_size (ms_P G (ms_T cI cJ cZ) [(q_t, .inr (6, [.ref q_t_letters, .ref q_t_base, .int F_size]))] [.ref q_t]) (ms_Qi K) 0 0 ms_N := by
  refine ms_si (cc := cX6_size) (maxL := 1) (ty := .int) (by decide) rfl (Nat.le_of_ble_eq_true rfl) ?_
  intro p e s m args below meth c Q hx hb hml hown hts hK hP hD hRet ls hl
  have hl : lv_has ls 1 [(0, .ref q_t)] := hl
  have hown : s.vm.findClass RX6 = some m.cls := hown
  refine lv_aload_n hx hb dX6_size_0 rfl (lv_at hl 0 rfl) ?_
  refine va_get (D := G) (ci := 6) (v := .int F_size) (C := RX6) (T := TX6) (N := 3) hx hb hts hkX6_size_X6 hown hK hP 0 rfl rfl 2 (by decide) (hts (.fieldLink RX6 18 "NestReaders$Row" "size" "I") hfX6_size_18) (fun _ h9 => h9) rfl dX6_size_1 ?_
  exact hRet F_size _ _ hw (vp_nar_int _) dX6_size_4
def wX6_cut (p0 : Int32) (F_size : Int32) (K : Int32 → Prop) : Prop :=
  ((p0 < (0 : Int32) → K F_size) ∧ (¬ p0 < (0 : Int32) → ((F_size ≤ p0 → K F_size) ∧ (¬ F_size ≤ p0 → K p0))))
abbrev rmX6_cut : Room := { frames := 0, cells := 0, slots := 0, locals := 0 }
theorem nd_X6_cut : yX6_cut.cls = RX6 ∧ yX6_cut.cls ≠ "java/lang/invoke/MethodHandle" ∧ yX6_cut.cls ≠ "java/lang/invoke/VarHandle" ∧ (parseMethodDescriptor yX6_cut.desc).map (fun d => d.parameters.length) = some 1 := by decide +kernel
theorem hkX6_cut_X6 : ∀ w ∈ u_ws RX6 TX6 3, w ∈ wsX6_cut := fun w h => List.mem_cons_of_mem _ (inlX6 w h)
theorem hfX6_cut_18 : (Cond.fieldLink RX6 18 "NestReaders$Row" "size" "I") ∈ wsX6_cut := List.mem_cons_of_mem _ m4_12
set_option maxHeartbeats 4000000 in
set_option maxRecDepth 100000 in
theorem c_X6_cut (l : Launch) (G : va_G) (cI cJ cZ : ClassId) (q_t q_t_letters q_t_base : Nat) (sz : Nat) (F_size : Int32) (p0 : Int32) {K : Int32 → Prop} (hw : wX6_cut p0 F_size K) : Met l yX6_cut wsX6_cut rmX6_cut (ms_Pz G (ms_T cI cJ cZ) [(q_t, .inr (6, [.ref q_t_letters, .ref q_t_base, .int F_size]))] sz [.ref q_t, .int p0]) (ms_Wv G (ms_T cI cJ cZ) (fun (u : Int32) => K u) (fun u : Int32 => [(q_t, .inr (6, [.ref q_t_letters, .ref q_t_base, .int u]))]) (va_A [(q_t, .inr (6, [.ref q_t_letters, .ref q_t_base, .int F_size]))] sz)) 0 0 (va_A [(q_t, .inr (6, [.ref q_t_letters, .ref q_t_base, .int F_size]))] sz) := by
  refine ms_tv (cc := cX6_cut) (maxL := 2) (by decide) rfl (Nat.le_of_ble_eq_true rfl) ?_
  intro p e s m args below meth c Q A hx hb hml hown hts hK hP hD hS hA hRet ls hl
  have hl : lv_has ls 2 [(0, .ref q_t), (1, .int p0)] := hl
  have hown : s.vm.findClass RX6 = some m.cls := hown
  refine lv_iload_n hx hb dX6_cut_0 rfl (lv_at hl 1 rfl) ?_
  refine lv_if_lt (tgt := 17) hx hb dX6_cut_1 (by decide) (fun c1 => ?_) (fun c1 => ?_)
  · have hw := hw.1 c1
    exact hRet F_size s.heap [] _ _ hw hP hD hS dX6_cut_17
  · have hw := hw.2 c1
    refine lv_iload_n hx hb dX6_cut_4 rfl (lv_at hl 1 rfl) ?_
    refine lv_aload_n hx hb dX6_cut_5 rfl (lv_at hl 0 rfl) ?_
    refine va_get (D := G) (ci := 6) (v := .int F_size) (C := RX6) (T := TX6) (N := 3) hx hb hts hkX6_cut_X6 hown hK hP 0 rfl rfl 2 (by decide) (hts (.fieldLink RX6 18 "NestReaders$Row" "size" "I") hfX6_cut_18) (fun _ h9 => h9) rfl dX6_cut_6 ?_
    refine lv_icmp_ge (tgt := 17) hx hb dX6_cut_9 (by decide) (fun c2 => ?_) (fun c2 => ?_)
    · have hw := hw.1 c2
      exact hRet F_size s.heap [] _ _ hw hP hD hS dX6_cut_17
    · have hw := hw.2 c2
      refine lv_aload_n hx hb dX6_cut_12 rfl (lv_at hl 0 rfl) ?_
      refine lv_iload_n hx hb dX6_cut_13 rfl (lv_at hl 1 rfl) ?_
      refine va_put (D := G) (ci := 6) (v := .int p0) (ty := .int) (C := RX6) (T := TX6) (N := 3) hx hb hts hkX6_cut_X6 tyX6 tyX6_ok nmX6 hown hK hP hD hS 0 rfl rfl 2 (by decide) (hts (.fieldLink RX6 18 "NestReaders$Row" "size" "I") hfX6_cut_18) (fun _ h9 => h9) rfl (by decide +kernel) rfl rfl (Nat.le_of_ble_eq_true rfl) dX6_cut_14 (fun H locs hP hD hS => ?_)
      have hP : va_P G vwCl [(q_t, .inr (6, [.ref q_t_letters, .ref q_t_base, .int p0]))] H := hP
      have hD : va_D A [(q_t, .inr (6, [.ref q_t_letters, .ref q_t_base, .int p0]))] := hD
      exact hRet p0 H locs _ _ hw hP hD hS dX6_cut_17
def wX6_letterAt (p0 : Int32) (F_size : Int32) (A_letters : Nat → Int32) (K : Int32 → Prop) : Prop :=
  ((p0 < (0 : Int32) → K (-1 : Int32)) ∧ (¬ p0 < (0 : Int32) → ((F_size ≤ p0 → K (-1 : Int32)) ∧ (¬ F_size ≤ p0 → (vp_in p0 24 ∧ K (A_letters p0.toNatClampNeg))))))
abbrev rmX6_letterAt : Room := { frames := 0, cells := 0, slots := 0, locals := 0 }
theorem nd_X6_letterAt : yX6_letterAt.cls = RX6 ∧ yX6_letterAt.cls ≠ "java/lang/invoke/MethodHandle" ∧ yX6_letterAt.cls ≠ "java/lang/invoke/VarHandle" ∧ (parseMethodDescriptor yX6_letterAt.desc).map (fun d => d.parameters.length) = some 1 := by decide +kernel
theorem hkX6_letterAt_X6 : ∀ w ∈ u_ws RX6 TX6 3, w ∈ wsX6_letterAt := fun w h => List.mem_cons_of_mem _ (inlX6 w h)
theorem hfX6_letterAt_18 : (Cond.fieldLink RX6 18 "NestReaders$Row" "size" "I") ∈ wsX6_letterAt := List.mem_cons_of_mem _ m4_12
theorem hfX6_letterAt_9 : (Cond.fieldLink RX6 9 "NestReaders$Row" "letters" "[I") ∈ wsX6_letterAt := List.mem_cons_of_mem _ m4_10
set_option maxHeartbeats 4000000 in
set_option maxRecDepth 100000 in
theorem c_X6_letterAt (l : Launch) (G : va_G) (cI cJ cZ : ClassId) (q_t q_t_letters q_t_base : Nat) (F_size : Int32) (A_letters : Nat → Int32) (p0 : Int32) {K : Int32 → Prop} (hw : wX6_letterAt p0 F_size A_letters K) : Met l yX6_letterAt wsX6_letterAt rmX6_letterAt (ms_P G (ms_T cI cJ cZ) [(q_t, .inr (6, [.ref q_t_letters, .ref q_t_base, .int F_size])), (q_t_letters, .inl (cI, 24, .inl A_letters))] [.ref q_t, .int p0]) (ms_Qi K) 0 0 ms_N := by
  refine ms_si (cc := cX6_letterAt) (maxL := 2) (ty := .int) (by decide) rfl (Nat.le_of_ble_eq_true rfl) ?_
  intro p e s m args below meth c Q hx hb hml hown hts hK hP hD hRet ls hl
  have hl : lv_has ls 2 [(0, .ref q_t), (1, .int p0)] := hl
  have hown : s.vm.findClass RX6 = some m.cls := hown
  refine lv_iload_n hx hb dX6_letterAt_0 rfl (lv_at hl 1 rfl) ?_
  refine lv_if_lt (tgt := 21) hx hb dX6_letterAt_1 (by decide) (fun c1 => ?_) (fun c1 => ?_)
  · have hw := hw.1 c1
    refine lv_iconst (v := (-1)) hx hb dX6_letterAt_21 (by decide) ?_
    exact hRet (-1 : Int32) _ _ hw (vp_nar_int _) dX6_letterAt_22
  · have hw := hw.2 c1
    refine lv_iload_n hx hb dX6_letterAt_4 rfl (lv_at hl 1 rfl) ?_
    refine lv_aload_n hx hb dX6_letterAt_5 rfl (lv_at hl 0 rfl) ?_
    refine va_get (D := G) (ci := 6) (v := .int F_size) (C := RX6) (T := TX6) (N := 3) hx hb hts hkX6_letterAt_X6 hown hK hP 0 rfl rfl 2 (by decide) (hts (.fieldLink RX6 18 "NestReaders$Row" "size" "I") hfX6_letterAt_18) (fun _ h9 => h9) rfl dX6_letterAt_6 ?_
    refine lv_icmp_ge (tgt := 21) hx hb dX6_letterAt_9 (by decide) (fun c2 => ?_) (fun c2 => ?_)
    · have hw := hw.1 c2
      refine lv_iconst (v := (-1)) hx hb dX6_letterAt_21 (by decide) ?_
      exact hRet (-1 : Int32) _ _ hw (vp_nar_int _) dX6_letterAt_22
    · have hw := hw.2 c2
      refine lv_aload_n hx hb dX6_letterAt_12 rfl (lv_at hl 0 rfl) ?_
      refine va_get (D := G) (ci := 6) (v := .ref q_t_letters) (C := RX6) (T := TX6) (N := 3) hx hb hts hkX6_letterAt_X6 hown hK hP 0 rfl rfl 0 (by decide) (hts (.fieldLink RX6 9 "NestReaders$Row" "letters" "[I") hfX6_letterAt_9) (fun _ h9 => h9) rfl dX6_letterAt_13 ?_
      refine lv_iload_n hx hb dX6_letterAt_16 rfl (lv_at hl 1 rfl) ?_
      refine va_iald (D := G) hx hb hK hP 1 0 rfl rfl hw.1 dX6_letterAt_17 ?_
      have hw := hw.2
      refine lv_goto (tgt := 22) hx hb dX6_letterAt_18 (by decide) ?_
      exact hRet (A_letters p0.toNatClampNeg) _ _ hw (vp_nar_int _) dX6_letterAt_22
def wX6_baseAt (p0 : Int32) (F_size : Int32) (A_base : Nat → Int32) (K : Int32 → Prop) : Prop :=
  ((p0 < (0 : Int32) → K (0 : Int32)) ∧ (¬ p0 < (0 : Int32) → ((F_size < p0 → K (0 : Int32)) ∧ (¬ F_size < p0 → (vp_in p0 25 ∧ K (A_base p0.toNatClampNeg))))))
abbrev rmX6_baseAt : Room := { frames := 0, cells := 0, slots := 0, locals := 0 }
theorem nd_X6_baseAt : yX6_baseAt.cls = RX6 ∧ yX6_baseAt.cls ≠ "java/lang/invoke/MethodHandle" ∧ yX6_baseAt.cls ≠ "java/lang/invoke/VarHandle" ∧ (parseMethodDescriptor yX6_baseAt.desc).map (fun d => d.parameters.length) = some 1 := by decide +kernel
theorem hkX6_baseAt_X6 : ∀ w ∈ u_ws RX6 TX6 3, w ∈ wsX6_baseAt := fun w h => List.mem_cons_of_mem _ (inlX6 w h)
theorem hfX6_baseAt_18 : (Cond.fieldLink RX6 18 "NestReaders$Row" "size" "I") ∈ wsX6_baseAt := List.mem_cons_of_mem _ m4_12
theorem hfX6_baseAt_15 : (Cond.fieldLink RX6 15 "NestReaders$Row" "base" "[I") ∈ wsX6_baseAt := List.mem_cons_of_mem _ m4_11
set_option maxHeartbeats 4000000 in
set_option maxRecDepth 100000 in
theorem c_X6_baseAt (l : Launch) (G : va_G) (cI cJ cZ : ClassId) (q_t q_t_letters q_t_base : Nat) (F_size : Int32) (A_base : Nat → Int32) (p0 : Int32) {K : Int32 → Prop} (hw : wX6_baseAt p0 F_size A_base K) : Met l yX6_baseAt wsX6_baseAt rmX6_baseAt (ms_P G (ms_T cI cJ cZ) [(q_t, .inr (6, [.ref q_t_letters, .ref q_t_base, .int F_size])), (q_t_base, .inl (cI, 25, .inl A_base))] [.ref q_t, .int p0]) (ms_Qi K) 0 0 ms_N := by
  refine ms_si (cc := cX6_baseAt) (maxL := 2) (ty := .int) (by decide) rfl (Nat.le_of_ble_eq_true rfl) ?_
  intro p e s m args below meth c Q hx hb hml hown hts hK hP hD hRet ls hl
  have hl : lv_has ls 2 [(0, .ref q_t), (1, .int p0)] := hl
  have hown : s.vm.findClass RX6 = some m.cls := hown
  refine lv_iload_n hx hb dX6_baseAt_0 rfl (lv_at hl 1 rfl) ?_
  refine lv_if_lt (tgt := 21) hx hb dX6_baseAt_1 (by decide) (fun c1 => ?_) (fun c1 => ?_)
  · have hw := hw.1 c1
    refine lv_iconst (v := 0) hx hb dX6_baseAt_21 (by decide) ?_
    exact hRet (0 : Int32) _ _ hw (vp_nar_int _) dX6_baseAt_22
  · have hw := hw.2 c1
    refine lv_iload_n hx hb dX6_baseAt_4 rfl (lv_at hl 1 rfl) ?_
    refine lv_aload_n hx hb dX6_baseAt_5 rfl (lv_at hl 0 rfl) ?_
    refine va_get (D := G) (ci := 6) (v := .int F_size) (C := RX6) (T := TX6) (N := 3) hx hb hts hkX6_baseAt_X6 hown hK hP 0 rfl rfl 2 (by decide) (hts (.fieldLink RX6 18 "NestReaders$Row" "size" "I") hfX6_baseAt_18) (fun _ h9 => h9) rfl dX6_baseAt_6 ?_
    refine lv_icmp_gt (tgt := 21) hx hb dX6_baseAt_9 (by decide) (fun c2 => ?_) (fun c2 => ?_)
    · have hw := hw.1 c2
      refine lv_iconst (v := 0) hx hb dX6_baseAt_21 (by decide) ?_
      exact hRet (0 : Int32) _ _ hw (vp_nar_int _) dX6_baseAt_22
    · have hw := hw.2 c2
      refine lv_aload_n hx hb dX6_baseAt_12 rfl (lv_at hl 0 rfl) ?_
      refine va_get (D := G) (ci := 6) (v := .ref q_t_base) (C := RX6) (T := TX6) (N := 3) hx hb hts hkX6_baseAt_X6 hown hK hP 0 rfl rfl 1 (by decide) (hts (.fieldLink RX6 15 "NestReaders$Row" "base" "[I") hfX6_baseAt_15) (fun _ h9 => h9) rfl dX6_baseAt_13 ?_
      refine lv_iload_n hx hb dX6_baseAt_16 rfl (lv_at hl 1 rfl) ?_
      refine va_iald (D := G) hx hb hK hP 1 0 rfl rfl hw.1 dX6_baseAt_17 ?_
      have hw := hw.2
      refine lv_goto (tgt := 22) hx hb dX6_baseAt_18 (by decide) ?_
      exact hRet (A_base p0.toNatClampNeg) _ _ hw (vp_nar_int _) dX6_baseAt_22
def wX6_openAt (p0 : Int32) (F_size : Int32) (A_letters : Nat → Int32) (A_base : Nat → Int32) (K : Int32 → Prop) : Prop :=
  (wX6_baseAt p0 F_size A_base (fun r1 => (∀ x2 : Int32, x2 = (r1 - (1 : Int32)) → ((x2 < (0 : Int32) → K (-1 : Int32)) ∧ (¬ x2 < (0 : Int32) → (wX6_letterAt x2 F_size A_letters (fun r4 => (wX5_opens r4 (fun r5 => ((r5 = (0 : Int32) → K (-1 : Int32)) ∧ (¬ r5 = (0 : Int32) → K x2)))))))))))
abbrev rmX6_openAt : Room := { frames := 1, cells := 0, slots := 0, locals := 21 }
theorem nd_X6_openAt : yX6_openAt.cls = RX6 ∧ yX6_openAt.cls ≠ "java/lang/invoke/MethodHandle" ∧ yX6_openAt.cls ≠ "java/lang/invoke/VarHandle" ∧ (parseMethodDescriptor yX6_openAt.desc).map (fun d => d.parameters.length) = some 1 := by decide +kernel
set_option maxHeartbeats 4000000 in
set_option maxRecDepth 100000 in
theorem c_X6_openAt (l : Launch) (G : va_G) (cI cJ cZ : ClassId) (q_t q_t_letters q_t_base : Nat) (F_size : Int32) (A_letters : Nat → Int32) (A_base : Nat → Int32) (p0 : Int32) {K : Int32 → Prop} (hw : wX6_openAt p0 F_size A_letters A_base K) : Met l yX6_openAt wsX6_openAt rmX6_openAt (ms_P G (ms_T cI cJ cZ) [(q_t, .inr (6, [.ref q_t_letters, .ref q_t_base, .int F_size])), (q_t_letters, .inl (cI, 24, .inl A_letters)), (q_t_base, .inl (cI, 25, .inl A_base))] [.ref q_t, .int p0]) (ms_Qi K) 0 0 ms_N := by
  refine ms_si (cc := cX6_openAt) (maxL := 3) (ty := .int) (by decide) rfl (Nat.le_of_ble_eq_true rfl) ?_
  intro p e s m args below meth c Q hx hb hml hown hts hK hP hD hRet ls hl
  have hl : lv_has ls 3 [(0, .ref q_t), (1, .int p0)] := hl
  have hown : s.vm.findClass RX6 = some m.cls := hown
  refine lv_aload_n hx hb dX6_openAt_0 rfl (lv_at hl 0 rfl) ?_
  refine lv_iload_n hx hb dX6_openAt_1 rfl (lv_at hl 1 rfl) ?_
  refine ms_cVi ⟨hx, hb, hml, hown, hts⟩ hK hP hD (c_X6_baseAt l G cI cJ cZ q_t q_t_letters q_t_base F_size A_base p0 hw) gX6_openAt_X6_baseAt rfl nd_X6_baseAt (ci := 6) rfl rfl rfl ⟨rfl, rfl⟩ rfl ⟨Nat.le_of_ble_eq_true rfl, Nat.le_of_ble_eq_true rfl⟩ hl.1 (rest := []) rfl (Nat.le_of_ble_eq_true rfl)  [0, 2] rfl rfl dX6_openAt_2 (fun r1 hw => ?_)
  refine lv_iconst (v := 1) hx hb dX6_openAt_5 (by decide) ?_
  refine lv_isub hx hb dX6_openAt_6 ?_
  refine lv_topi (fun x2 ex2 => ?_)
  have hw := hw x2 ex2
  refine lv_istore_n (lv' := [(2, .int x2), (0, .ref q_t), (1, .int p0)]) hx hb dX6_openAt_7 rfl hl (by decide) rfl (fun ls hl => ?_)
  refine lv_iload_n hx hb dX6_openAt_8 rfl (lv_at hl 0 rfl) ?_
  refine lv_if_lt (tgt := 27) hx hb dX6_openAt_9 (by decide) (fun c3 => ?_) (fun c3 => ?_)
  · have hw := hw.1 c3
    refine lv_iconst (v := (-1)) hx hb dX6_openAt_27 (by decide) ?_
    exact hRet (-1 : Int32) _ _ hw (vp_nar_int _) dX6_openAt_28
  · have hw := hw.2 c3
    refine lv_aload_n hx hb dX6_openAt_12 rfl (lv_at hl 1 rfl) ?_
    refine lv_iload_n hx hb dX6_openAt_13 rfl (lv_at hl 0 rfl) ?_
    refine ms_cVi ⟨hx, hb, hml, hown, hts⟩ hK hP hD (c_X6_letterAt l G cI cJ cZ q_t q_t_letters q_t_base F_size A_letters x2 hw) gX6_openAt_X6_letterAt rfl nd_X6_letterAt (ci := 6) rfl rfl rfl ⟨rfl, rfl⟩ rfl ⟨Nat.le_of_ble_eq_true rfl, Nat.le_of_ble_eq_true rfl⟩ hl.1 (rest := []) rfl (Nat.le_of_ble_eq_true rfl)  [0, 1] rfl rfl dX6_openAt_14 (fun r4 hw => ?_)
    refine ms_cSi ⟨hx, hb, hml, hown, hts⟩ hK hP hD (c_X5_opens l G cI cJ cZ r4 hw) gX6_openAt_X5_opens rfl nd_X5_opens ⟨rfl, rfl⟩ rfl ⟨Nat.le_of_ble_eq_true rfl, Nat.le_of_ble_eq_true rfl⟩ hl.1 (rest := []) rfl (Nat.le_of_ble_eq_true rfl)  [] rfl rfl dX6_openAt_17 (fun r5 hw => ?_)
    have zzr5 := hw.1
    have hw := hw.2
    refine lv_if_eq (tgt := 27) hx hb dX6_openAt_20 (by decide) (fun c6 => ?_) (fun c6 => ?_)
    · have hw := hw.1 c6
      refine lv_iconst (v := (-1)) hx hb dX6_openAt_27 (by decide) ?_
      exact hRet (-1 : Int32) _ _ hw (vp_nar_int _) dX6_openAt_28
    · have hw := hw.2 c6
      refine lv_iload_n hx hb dX6_openAt_23 rfl (lv_at hl 0 rfl) ?_
      refine lv_goto (tgt := 28) hx hb dX6_openAt_24 (by decide) ?_
      exact hRet x2 _ _ hw (vp_nar_int _) dX6_openAt_28
def wX6_isWhole (F_size : Int32) (A_base : Nat → Int32) (K : Int32 → Prop) : Prop :=
  (vp_in F_size 25 ∧ (((A_base F_size.toNatClampNeg) = (0 : Int32) → K (1 : Int32)) ∧ (¬ (A_base F_size.toNatClampNeg) = (0 : Int32) → K (0 : Int32))))
abbrev rmX6_isWhole : Room := { frames := 0, cells := 0, slots := 0, locals := 0 }
theorem nd_X6_isWhole : yX6_isWhole.cls = RX6 ∧ yX6_isWhole.cls ≠ "java/lang/invoke/MethodHandle" ∧ yX6_isWhole.cls ≠ "java/lang/invoke/VarHandle" ∧ (parseMethodDescriptor yX6_isWhole.desc).map (fun d => d.parameters.length) = some 0 := by decide +kernel
theorem hkX6_isWhole_X6 : ∀ w ∈ u_ws RX6 TX6 3, w ∈ wsX6_isWhole := fun w h => List.mem_cons_of_mem _ (inlX6 w h)
theorem hfX6_isWhole_15 : (Cond.fieldLink RX6 15 "NestReaders$Row" "base" "[I") ∈ wsX6_isWhole := List.mem_cons_of_mem _ m4_11
theorem hfX6_isWhole_18 : (Cond.fieldLink RX6 18 "NestReaders$Row" "size" "I") ∈ wsX6_isWhole := List.mem_cons_of_mem _ m4_12
set_option maxHeartbeats 4000000 in
set_option maxRecDepth 100000 in
theorem c_X6_isWhole (l : Launch) (G : va_G) (cI cJ cZ : ClassId) (q_t q_t_letters q_t_base : Nat) (F_size : Int32) (A_base : Nat → Int32) {K : Int32 → Prop} (hw : wX6_isWhole F_size A_base K) : Met l yX6_isWhole wsX6_isWhole rmX6_isWhole (ms_P G (ms_T cI cJ cZ) [(q_t, .inr (6, [.ref q_t_letters, .ref q_t_base, .int F_size])), (q_t_base, .inl (cI, 25, .inl A_base))] [.ref q_t]) (ms_Qi (fun r : Int32 => ms_z r ∧ K r)) 0 0 ms_N := by
  refine ms_si (cc := cX6_isWhole) (maxL := 1) (ty := .boolean) (by decide) rfl (Nat.le_of_ble_eq_true rfl) ?_
  intro p e s m args below meth c Q hx hb hml hown hts hK hP hD hRet ls hl
  have hl : lv_has ls 1 [(0, .ref q_t)] := hl
  have hown : s.vm.findClass RX6 = some m.cls := hown
  refine lv_aload_n hx hb dX6_isWhole_0 rfl (lv_at hl 0 rfl) ?_
  refine va_get (D := G) (ci := 6) (v := .ref q_t_base) (C := RX6) (T := TX6) (N := 3) hx hb hts hkX6_isWhole_X6 hown hK hP 0 rfl rfl 1 (by decide) (hts (.fieldLink RX6 15 "NestReaders$Row" "base" "[I") hfX6_isWhole_15) (fun _ h9 => h9) rfl dX6_isWhole_1 ?_
  refine lv_aload_n hx hb dX6_isWhole_4 rfl (lv_at hl 0 rfl) ?_
  refine va_get (D := G) (ci := 6) (v := .int F_size) (C := RX6) (T := TX6) (N := 3) hx hb hts hkX6_isWhole_X6 hown hK hP 0 rfl rfl 2 (by decide) (hts (.fieldLink RX6 18 "NestReaders$Row" "size" "I") hfX6_isWhole_18) (fun _ h9 => h9) rfl dX6_isWhole_5 ?_
  refine va_iald (D := G) hx hb hK hP 1 0 rfl rfl hw.1 dX6_isWhole_8 ?_
  have hw := hw.2
  refine lv_if_ne (tgt := 16) hx hb dX6_isWhole_9 (by decide) (fun c1 => ?_) (fun c1 => ?_)
  · have hw := hw.2 c1
    refine lv_iconst (v := 0) hx hb dX6_isWhole_16 (by decide) ?_
    exact hRet (0 : Int32) _ _ ⟨ms_z0, hw⟩ ms_z0 dX6_isWhole_17
  · have hw := hw.1 c1
    refine lv_iconst (v := 1) hx hb dX6_isWhole_12 (by decide) ?_
    refine lv_goto (tgt := 17) hx hb dX6_isWhole_13 (by decide) ?_
    exact hRet (1 : Int32) _ _ ⟨ms_z1, hw⟩ ms_z1 dX6_isWhole_17
def wX6_depthBehind_L8 (F_size : Int32) (A_letters : Nat → Int32) (A_base : Nat → Int32) (E8 : Int32 → Int32 → Prop) (i8_2 : Int32) (i8_3 : Int32) : Prop :=
  ∀ P8 : Int32 → Int32 → Prop, (∀ (i8_2 : Int32) (i8_3 : Int32), ((i8_3 = (-1 : Int32) → E8 i8_2 i8_3) ∧ (¬ i8_3 = (-1 : Int32) → (((24 : Int32) ≤ i8_2 → E8 i8_2 i8_3) ∧ (¬ (24 : Int32) ≤ i8_2 → (∀ x4 : Int32, x4 = i8_2 + (1 : Int32) → (wX6_openAt i8_3 F_size A_letters A_base (fun r5 => P8 x4 r5))))))) → P8 i8_2 i8_3) → P8 i8_2 i8_3
def wX6_depthBehind (p0 : Int32) (F_size : Int32) (A_letters : Nat → Int32) (A_base : Nat → Int32) (K : Int32 → Prop) : Prop :=
  (wX6_openAt p0 F_size A_letters A_base (fun r1 => (∀ E8 : Int32 → Int32 → Prop, (∀ (i8_2 : Int32) (i8_3 : Int32), K i8_2 → E8 i8_2 i8_3) → wX6_depthBehind_L8 F_size A_letters A_base E8 (0 : Int32) r1)))
abbrev rmX6_depthBehind : Room := { frames := 2, cells := 0, slots := 0, locals := 43 }
theorem nd_X6_depthBehind : yX6_depthBehind.cls = RX6 ∧ yX6_depthBehind.cls ≠ "java/lang/invoke/MethodHandle" ∧ yX6_depthBehind.cls ≠ "java/lang/invoke/VarHandle" ∧ (parseMethodDescriptor yX6_depthBehind.desc).map (fun d => d.parameters.length) = some 1 := by decide +kernel
set_option maxHeartbeats 4000000 in
set_option maxRecDepth 100000 in
theorem c_X6_depthBehind (l : Launch) (G : va_G) (cI cJ cZ : ClassId) (q_t q_t_letters q_t_base : Nat) (F_size : Int32) (A_letters : Nat → Int32) (A_base : Nat → Int32) (p0 : Int32) {K : Int32 → Prop} (hw : wX6_depthBehind p0 F_size A_letters A_base K) : Met l yX6_depthBehind wsX6_depthBehind rmX6_depthBehind (ms_P G (ms_T cI cJ cZ) [(q_t, .inr (6, [.ref q_t_letters, .ref q_t_base, .int F_size])), (q_t_letters, .inl (cI, 24, .inl A_letters)), (q_t_base, .inl (cI, 25, .inl A_base))] [.ref q_t, .int p0]) (ms_Qi K) 0 0 ms_N := by
  refine ms_si (cc := cX6_depthBehind) (maxL := 4) (ty := .int) (by decide) rfl (Nat.le_of_ble_eq_true rfl) ?_
  intro p e s m args below meth c Q hx hb hml hown hts hK hP hD hRet ls hl
  have hl : lv_has ls 4 [(0, .ref q_t), (1, .int p0)] := hl
  have hown : s.vm.findClass RX6 = some m.cls := hown
  refine lv_iconst (v := 0) hx hb dX6_depthBehind_0 (by decide) ?_
  refine lv_istore_n (lv' := [(2, .int (0 : Int32)), (0, .ref q_t), (1, .int p0)]) hx hb dX6_depthBehind_1 rfl hl (by decide) rfl (fun ls hl => ?_)
  refine lv_aload_n hx hb dX6_depthBehind_2 rfl (lv_at hl 1 rfl) ?_
  refine lv_iload_n hx hb dX6_depthBehind_3 rfl (lv_at hl 2 rfl) ?_
  refine ms_cVi ⟨hx, hb, hml, hown, hts⟩ hK hP hD (c_X6_openAt l G cI cJ cZ q_t q_t_letters q_t_base F_size A_letters A_base p0 hw) gX6_depthBehind_X6_openAt rfl nd_X6_openAt (ci := 6) rfl rfl rfl ⟨rfl, rfl⟩ rfl ⟨Nat.le_of_ble_eq_true rfl, Nat.le_of_ble_eq_true rfl⟩ hl.1 (rest := []) rfl (Nat.le_of_ble_eq_true rfl)  [0, 1, 2] rfl rfl dX6_depthBehind_4 (fun r1 hw => ?_)
  refine lv_istore_n (lv' := [(3, .int r1), (2, .int (0 : Int32)), (0, .ref q_t), (1, .int p0)]) hx hb dX6_depthBehind_7 rfl hl (by decide) rfl (fun ls hl => ?_)
  have hw := hw (fun i8_2 i8_3 => ∀ ls : Array Slot, lv_has ls 4 [(2, .int i8_2)] → W p l e rmX6_depthBehind s m args below meth c s.heap [] 0 0 Q (F0 m 31 ls [])) (fun i8_2 i8_3 hw ls hl => by
    refine lv_iload_n hx hb dX6_depthBehind_31 rfl (lv_at hl 0 rfl) ?_
    exact hRet i8_2 _ _ hw (vp_nar_int _) dX6_depthBehind_32
    )
  refine hw (fun i8_2 i8_3 => ∀ ls : Array Slot, lv_has ls 4 [(0, .ref q_t), (2, .int i8_2), (3, .int i8_3)] → W p l e rmX6_depthBehind s m args below meth c s.heap [] 0 0 Q (F0 m 8 ls [])) (fun i8_2 i8_3 hw ls hl => ?_) ls (lv_sub hl [2, 1, 0] rfl)
  refine lv_iload_n hx hb dX6_depthBehind_8 rfl (lv_at hl 2 rfl) ?_
  refine lv_iconst (v := (-1)) hx hb dX6_depthBehind_9 (by decide) ?_
  refine lv_icmp_eq (tgt := 31) hx hb dX6_depthBehind_10 (by decide) (fun c2 => ?_) (fun c2 => ?_)
  · have hw := hw.1 c2
    exact hw ls (lv_sub hl [1] rfl)
  · have hw := hw.2 c2
    refine lv_iload_n hx hb dX6_depthBehind_13 rfl (lv_at hl 1 rfl) ?_
    refine lv_bipush (v := (24)) hx hb dX6_depthBehind_14 (by decide) ?_
    refine lv_icmp_ge (tgt := 31) hx hb dX6_depthBehind_16 (by decide) (fun c3 => ?_) (fun c3 => ?_)
    · have hw := hw.1 c3
      exact hw ls (lv_sub hl [1] rfl)
    · have hw := hw.2 c3
      obtain ⟨x4, ex4⟩ : ∃ y : Int32, y = i8_2 + (1 : Int32) := ⟨_, rfl⟩
      have hw := hw x4 ex4
      refine lv_iinc (v := x4) (lv' := [(2, .int x4), (0, .ref q_t), (3, .int i8_3)]) hx hb dX6_depthBehind_19 hl (k := 1) rfl (by rw [ex4]; rfl) (by decide) rfl (fun ls hl => ?_)
      refine lv_aload_n hx hb dX6_depthBehind_22 rfl (lv_at hl 1 rfl) ?_
      refine lv_iload_n hx hb dX6_depthBehind_23 rfl (lv_at hl 2 rfl) ?_
      refine ms_cVi ⟨hx, hb, hml, hown, hts⟩ hK hP hD (c_X6_openAt l G cI cJ cZ q_t q_t_letters q_t_base F_size A_letters A_base i8_3 hw) gX6_depthBehind_X6_openAt rfl nd_X6_openAt (ci := 6) rfl rfl rfl ⟨rfl, rfl⟩ rfl ⟨Nat.le_of_ble_eq_true rfl, Nat.le_of_ble_eq_true rfl⟩ hl.1 (rest := []) rfl (Nat.le_of_ble_eq_true rfl)  [0, 1, 2] rfl rfl dX6_depthBehind_24 (fun r5 hw => ?_)
      refine lv_istore_n (lv' := [(3, .int r5), (2, .int x4), (0, .ref q_t)]) hx hb dX6_depthBehind_27 rfl hl (by decide) rfl (fun ls hl => ?_)
      refine lv_goto (tgt := 8) hx hb dX6_depthBehind_28 (by decide) ?_
      exact hw ls (lv_sub hl [2, 1, 0] rfl)
def wX6_partnerOf_L23 (p0 : Int32) (F_size : Int32) (A_letters : Nat → Int32) (A_base : Nat → Int32) (K : Int32 → Prop) (r1 : Int32) (E23 : Int32 → Prop) (i23_3 : Int32) : Prop :=
  ∀ P23 : Int32 → Prop, (∀ (i23_3 : Int32), ((F_size ≤ i23_3 → E23 i23_3) ∧ (¬ F_size ≤ i23_3 → (wX5_opens r1 (fun r6 => ((r6 = (0 : Int32) → E23 i23_3) ∧ (¬ r6 = (0 : Int32) → (wX6_letterAt i23_3 F_size A_letters (fun r8 => (wX5_closes r8 (fun r9 => ((r9 = (0 : Int32) → (∀ x11 : Int32, x11 = i23_3 + (1 : Int32) → P23 x11)) ∧ (¬ r9 = (0 : Int32) → (wX6_openAt i23_3 F_size A_letters A_base (fun r12 => ((r12 = p0 → K i23_3) ∧ (¬ r12 = p0 → (∀ x14 : Int32, x14 = i23_3 + (1 : Int32) → P23 x14))))))))))))))))) → P23 i23_3) → P23 i23_3
def wX6_partnerOf (p0 : Int32) (F_size : Int32) (A_letters : Nat → Int32) (A_base : Nat → Int32) (K : Int32 → Prop) : Prop :=
  (wX6_letterAt p0 F_size A_letters (fun r1 => (wX5_closes r1 (fun r2 => ((r2 = (0 : Int32) → (∀ x4 : Int32, x4 = (p0 + (1 : Int32)) → (∀ E23 : Int32 → Prop, (∀ (i23_3 : Int32), K (-1 : Int32) → E23 i23_3) → wX6_partnerOf_L23 p0 F_size A_letters A_base K r1 E23 x4))) ∧ (¬ r2 = (0 : Int32) → (wX6_openAt p0 F_size A_letters A_base (fun r15 => K r15))))))))
abbrev rmX6_partnerOf : Room := { frames := 2, cells := 0, slots := 0, locals := 43 }
theorem nd_X6_partnerOf : yX6_partnerOf.cls = RX6 ∧ yX6_partnerOf.cls ≠ "java/lang/invoke/MethodHandle" ∧ yX6_partnerOf.cls ≠ "java/lang/invoke/VarHandle" ∧ (parseMethodDescriptor yX6_partnerOf.desc).map (fun d => d.parameters.length) = some 1 := by decide +kernel
theorem hkX6_partnerOf_X6 : ∀ w ∈ u_ws RX6 TX6 3, w ∈ wsX6_partnerOf := fun w h => List.mem_cons_of_mem _ (inlX6 w h)
theorem hfX6_partnerOf_18 : (Cond.fieldLink RX6 18 "NestReaders$Row" "size" "I") ∈ wsX6_partnerOf := List.mem_cons_of_mem _ m4_12
set_option maxHeartbeats 4000000 in
set_option maxRecDepth 100000 in
theorem c_X6_partnerOf (l : Launch) (G : va_G) (cI cJ cZ : ClassId) (q_t q_t_letters q_t_base : Nat) (F_size : Int32) (A_letters : Nat → Int32) (A_base : Nat → Int32) (p0 : Int32) {K : Int32 → Prop} (hw : wX6_partnerOf p0 F_size A_letters A_base K) : Met l yX6_partnerOf wsX6_partnerOf rmX6_partnerOf (ms_P G (ms_T cI cJ cZ) [(q_t, .inr (6, [.ref q_t_letters, .ref q_t_base, .int F_size])), (q_t_letters, .inl (cI, 24, .inl A_letters)), (q_t_base, .inl (cI, 25, .inl A_base))] [.ref q_t, .int p0]) (ms_Qi K) 0 0 ms_N := by
  refine ms_si (cc := cX6_partnerOf) (maxL := 4) (ty := .int) (by decide) rfl (Nat.le_of_ble_eq_true rfl) ?_
  intro p e s m args below meth c Q hx hb hml hown hts hK hP hD hRet ls hl
  have hl : lv_has ls 4 [(0, .ref q_t), (1, .int p0)] := hl
  have hown : s.vm.findClass RX6 = some m.cls := hown
  refine lv_aload_n hx hb dX6_partnerOf_0 rfl (lv_at hl 0 rfl) ?_
  refine lv_iload_n hx hb dX6_partnerOf_1 rfl (lv_at hl 1 rfl) ?_
  refine ms_cVi ⟨hx, hb, hml, hown, hts⟩ hK hP hD (c_X6_letterAt l G cI cJ cZ q_t q_t_letters q_t_base F_size A_letters p0 hw) gX6_partnerOf_X6_letterAt rfl nd_X6_letterAt (ci := 6) rfl rfl rfl ⟨rfl, rfl⟩ rfl ⟨Nat.le_of_ble_eq_true rfl, Nat.le_of_ble_eq_true rfl⟩ hl.1 (rest := []) rfl (Nat.le_of_ble_eq_true rfl)  [0, 1] rfl rfl dX6_partnerOf_2 (fun r1 hw => ?_)
  refine lv_istore_n (lv' := [(2, .int r1), (0, .ref q_t), (1, .int p0)]) hx hb dX6_partnerOf_5 rfl hl (by decide) rfl (fun ls hl => ?_)
  refine lv_iload_n hx hb dX6_partnerOf_6 rfl (lv_at hl 0 rfl) ?_
  refine ms_cSi ⟨hx, hb, hml, hown, hts⟩ hK hP hD (c_X5_closes l G cI cJ cZ r1 hw) gX6_partnerOf_X5_closes rfl nd_X5_closes ⟨rfl, rfl⟩ rfl ⟨Nat.le_of_ble_eq_true rfl, Nat.le_of_ble_eq_true rfl⟩ hl.1 (rest := []) rfl (Nat.le_of_ble_eq_true rfl)  [] rfl rfl dX6_partnerOf_7 (fun r2 hw => ?_)
  have zzr2 := hw.1
  have hw := hw.2
  refine lv_if_eq (tgt := 19) hx hb dX6_partnerOf_10 (by decide) (fun c3 => ?_) (fun c3 => ?_)
  · have hw := hw.1 c3
    refine lv_iload_n hx hb dX6_partnerOf_19 rfl (lv_at hl 2 rfl) ?_
    refine lv_iconst (v := 1) hx hb dX6_partnerOf_20 (by decide) ?_
    refine lv_iadd hx hb dX6_partnerOf_21 ?_
    refine lv_topi (fun x4 ex4 => ?_)
    have hw := hw x4 ex4
    refine lv_istore_n (lv' := [(3, .int x4), (2, .int r1), (0, .ref q_t), (1, .int p0)]) hx hb dX6_partnerOf_22 rfl hl (by decide) rfl (fun ls hl => ?_)
    have hw := hw (fun i23_3 => ∀ ls : Array Slot, lv_has ls 4 [] → W p l e rmX6_partnerOf s m args below meth c s.heap [] 0 0 Q (F0 m 66 ls [])) (fun i23_3 hw ls hl => by
      refine lv_iconst (v := (-1)) hx hb dX6_partnerOf_66 (by decide) ?_
      exact hRet (-1 : Int32) _ _ hw (vp_nar_int _) dX6_partnerOf_67
      )
    refine hw (fun i23_3 => ∀ ls : Array Slot, lv_has ls 4 [(0, .ref q_t), (1, .int p0), (2, .int r1), (3, .int i23_3)] → W p l e rmX6_partnerOf s m args below meth c s.heap [] 0 0 Q (F0 m 23 ls [])) (fun i23_3 hw ls hl => ?_) ls (lv_sub hl [2, 3, 1, 0] rfl)
    refine lv_iload_n hx hb dX6_partnerOf_23 rfl (lv_at hl 3 rfl) ?_
    refine lv_aload_n hx hb dX6_partnerOf_24 rfl (lv_at hl 0 rfl) ?_
    refine va_get (D := G) (ci := 6) (v := .int F_size) (C := RX6) (T := TX6) (N := 3) hx hb hts hkX6_partnerOf_X6 hown hK hP 0 rfl rfl 2 (by decide) (hts (.fieldLink RX6 18 "NestReaders$Row" "size" "I") hfX6_partnerOf_18) (fun _ h9 => h9) rfl dX6_partnerOf_25 ?_
    refine lv_icmp_ge (tgt := 66) hx hb dX6_partnerOf_28 (by decide) (fun c5 => ?_) (fun c5 => ?_)
    · have hw := hw.1 c5
      exact hw ls (lv_sub hl [] rfl)
    · have hw := hw.2 c5
      refine lv_iload_n hx hb dX6_partnerOf_31 rfl (lv_at hl 2 rfl) ?_
      refine ms_cSi ⟨hx, hb, hml, hown, hts⟩ hK hP hD (c_X5_opens l G cI cJ cZ r1 hw) gX6_partnerOf_X5_opens rfl nd_X5_opens ⟨rfl, rfl⟩ rfl ⟨Nat.le_of_ble_eq_true rfl, Nat.le_of_ble_eq_true rfl⟩ hl.1 (rest := []) rfl (Nat.le_of_ble_eq_true rfl)  [] rfl rfl dX6_partnerOf_32 (fun r6 hw => ?_)
      have zzr6 := hw.1
      have hw := hw.2
      refine lv_if_eq (tgt := 66) hx hb dX6_partnerOf_35 (by decide) (fun c7 => ?_) (fun c7 => ?_)
      · have hw := hw.1 c7
        exact hw ls (lv_sub hl [] rfl)
      · have hw := hw.2 c7
        refine lv_aload_n hx hb dX6_partnerOf_38 rfl (lv_at hl 0 rfl) ?_
        refine lv_iload_n hx hb dX6_partnerOf_39 rfl (lv_at hl 3 rfl) ?_
        refine ms_cVi ⟨hx, hb, hml, hown, hts⟩ hK hP hD (c_X6_letterAt l G cI cJ cZ q_t q_t_letters q_t_base F_size A_letters i23_3 hw) gX6_partnerOf_X6_letterAt rfl nd_X6_letterAt (ci := 6) rfl rfl rfl ⟨rfl, rfl⟩ rfl ⟨Nat.le_of_ble_eq_true rfl, Nat.le_of_ble_eq_true rfl⟩ hl.1 (rest := []) rfl (Nat.le_of_ble_eq_true rfl)  [0, 1] rfl rfl dX6_partnerOf_40 (fun r8 hw => ?_)
        refine ms_cSi ⟨hx, hb, hml, hown, hts⟩ hK hP hD (c_X5_closes l G cI cJ cZ r8 hw) gX6_partnerOf_X5_closes rfl nd_X5_closes ⟨rfl, rfl⟩ rfl ⟨Nat.le_of_ble_eq_true rfl, Nat.le_of_ble_eq_true rfl⟩ hl.1 (rest := []) rfl (Nat.le_of_ble_eq_true rfl)  [] rfl rfl dX6_partnerOf_43 (fun r9 hw => ?_)
        have zzr9 := hw.1
        have hw := hw.2
        refine lv_if_eq (tgt := 60) hx hb dX6_partnerOf_46 (by decide) (fun c10 => ?_) (fun c10 => ?_)
        · have hw := hw.1 c10
          obtain ⟨x11, ex11⟩ : ∃ y : Int32, y = i23_3 + (1 : Int32) := ⟨_, rfl⟩
          have hw := hw x11 ex11
          refine lv_iinc (v := x11) (lv' := [(3, .int x11), (0, .ref q_t), (1, .int p0), (2, .int r1)]) hx hb dX6_partnerOf_60 hl (k := 3) rfl (by rw [ex11]; rfl) (by decide) rfl (fun ls hl => ?_)
          refine lv_goto (tgt := 23) hx hb dX6_partnerOf_63 (by decide) ?_
          exact hw ls (lv_sub hl [1, 2, 3, 0] rfl)
        · have hw := hw.2 c10
          refine lv_aload_n hx hb dX6_partnerOf_49 rfl (lv_at hl 0 rfl) ?_
          refine lv_iload_n hx hb dX6_partnerOf_50 rfl (lv_at hl 3 rfl) ?_
          refine ms_cVi ⟨hx, hb, hml, hown, hts⟩ hK hP hD (c_X6_openAt l G cI cJ cZ q_t q_t_letters q_t_base F_size A_letters A_base i23_3 hw) gX6_partnerOf_X6_openAt rfl nd_X6_openAt (ci := 6) rfl rfl rfl ⟨rfl, rfl⟩ rfl ⟨Nat.le_of_ble_eq_true rfl, Nat.le_of_ble_eq_true rfl⟩ hl.1 (rest := []) rfl (Nat.le_of_ble_eq_true rfl)  [0, 1, 2] rfl rfl dX6_partnerOf_51 (fun r12 hw => ?_)
          refine lv_iload_n hx hb dX6_partnerOf_54 rfl (lv_at hl 1 rfl) ?_
          refine lv_icmp_ne (tgt := 60) hx hb dX6_partnerOf_55 (by decide) (fun c13 => ?_) (fun c13 => ?_)
          · have hw := hw.2 c13
            obtain ⟨x14, ex14⟩ : ∃ y : Int32, y = i23_3 + (1 : Int32) := ⟨_, rfl⟩
            have hw := hw x14 ex14
            refine lv_iinc (v := x14) (lv' := [(3, .int x14), (0, .ref q_t), (1, .int p0), (2, .int r1)]) hx hb dX6_partnerOf_60 hl (k := 3) rfl (by rw [ex14]; rfl) (by decide) rfl (fun ls hl => ?_)
            refine lv_goto (tgt := 23) hx hb dX6_partnerOf_63 (by decide) ?_
            exact hw ls (lv_sub hl [1, 2, 3, 0] rfl)
          · have hw := hw.1 c13
            refine lv_iload_n hx hb dX6_partnerOf_58 rfl (lv_at hl 3 rfl) ?_
            exact hRet i23_3 _ _ hw (vp_nar_int _) dX6_partnerOf_59
  · have hw := hw.2 c3
    refine lv_aload_n hx hb dX6_partnerOf_13 rfl (lv_at hl 1 rfl) ?_
    refine lv_iload_n hx hb dX6_partnerOf_14 rfl (lv_at hl 2 rfl) ?_
    refine ms_cVi ⟨hx, hb, hml, hown, hts⟩ hK hP hD (c_X6_openAt l G cI cJ cZ q_t q_t_letters q_t_base F_size A_letters A_base p0 hw) gX6_partnerOf_X6_openAt rfl nd_X6_openAt (ci := 6) rfl rfl rfl ⟨rfl, rfl⟩ rfl ⟨Nat.le_of_ble_eq_true rfl, Nat.le_of_ble_eq_true rfl⟩ hl.1 (rest := []) rfl (Nat.le_of_ble_eq_true rfl)  [0, 1, 2] rfl rfl dX6_partnerOf_15 (fun r15 hw => ?_)
    exact hRet r15 _ _ hw (vp_nar_int _) dX6_partnerOf_18
def wX6_append (p0 : Int32) (F_size : Int32) (A_letters : Nat → Int32) (A_base : Nat → Int32) (K : Int32 → (Nat → Int32) → (Nat → Int32) → Prop) : Prop :=
  ((F_size < (24 : Int32) → (wX6_openAt F_size F_size A_letters A_base (fun r2 => (vp_in F_size 24 ∧ (∀ g3 : Nat → Int32, g3 = upd A_letters F_size.toNatClampNeg p0 → (∀ x4 : Int32, x4 = (F_size + (1 : Int32)) → (wX5_isPlain p0 (fun r5 => ((r5 = (0 : Int32) → (wX5_closes p0 (fun r7 => ((r7 = (0 : Int32) → (vp_in x4 25 ∧ (∀ g9 : Nat → Int32, g9 = upd A_base x4.toNatClampNeg x4 → K x4 g3 g9))) ∧ (¬ r7 = (0 : Int32) → ((r2 = (-1 : Int32) → (vp_in x4 25 ∧ (∀ g11 : Nat → Int32, g11 = upd A_base x4.toNatClampNeg x4 → K x4 g3 g11))) ∧ (¬ r2 = (-1 : Int32) → (vp_in r2 25 ∧ (vp_in x4 25 ∧ (∀ g12 : Nat → Int32, g12 = upd A_base x4.toNatClampNeg (A_base r2.toNatClampNeg) → K x4 g3 g12)))))))))) ∧ (¬ r5 = (0 : Int32) → (vp_in (x4 - (1 : Int32)) 25 ∧ (∀ x13 : Int32, x13 = (A_base (x4 - (1 : Int32)).toNatClampNeg) → (vp_in x4 25 ∧ (∀ g14 : Nat → Int32, g14 = upd A_base x4.toNatClampNeg x13 → K x4 g3 g14)))))))))))))) ∧ (¬ F_size < (24 : Int32) → K F_size A_letters A_base))
abbrev rmX6_append : Room := { frames := 2, cells := 0, slots := 0, locals := 43 }
theorem nd_X6_append : yX6_append.cls = RX6 ∧ yX6_append.cls ≠ "java/lang/invoke/MethodHandle" ∧ yX6_append.cls ≠ "java/lang/invoke/VarHandle" ∧ (parseMethodDescriptor yX6_append.desc).map (fun d => d.parameters.length) = some 1 := by decide +kernel
theorem hkX6_append_X6 : ∀ w ∈ u_ws RX6 TX6 3, w ∈ wsX6_append := fun w h => List.mem_cons_of_mem _ (inlX6 w h)
theorem hfX6_append_18 : (Cond.fieldLink RX6 18 "NestReaders$Row" "size" "I") ∈ wsX6_append := List.mem_cons_of_mem _ m4_12
theorem hfX6_append_9 : (Cond.fieldLink RX6 9 "NestReaders$Row" "letters" "[I") ∈ wsX6_append := List.mem_cons_of_mem _ m4_10
theorem hfX6_append_15 : (Cond.fieldLink RX6 15 "NestReaders$Row" "base" "[I") ∈ wsX6_append := List.mem_cons_of_mem _ m4_11
set_option maxHeartbeats 4000000 in
set_option maxRecDepth 100000 in
theorem c_X6_append (l : Launch) (G : va_G) (cI cJ cZ : ClassId) (q_t q_t_letters q_t_base : Nat) (sz : Nat) (F_size : Int32) (A_letters : Nat → Int32) (A_base : Nat → Int32) (p0 : Int32) {K : Int32 → (Nat → Int32) → (Nat → Int32) → Prop} (hw : wX6_append p0 F_size A_letters A_base K) : Met l yX6_append wsX6_append rmX6_append (ms_Pz G (ms_T cI cJ cZ) [(q_t, .inr (6, [.ref q_t_letters, .ref q_t_base, .int F_size])), (q_t_letters, .inl (cI, 24, .inl A_letters)), (q_t_base, .inl (cI, 25, .inl A_base))] sz [.ref q_t, .int p0]) (ms_Wv G (ms_T cI cJ cZ) (fun (u : Int32 × (Nat → Int32) × (Nat → Int32)) => K u.1 u.2.1 u.2.2) (fun u : Int32 × (Nat → Int32) × (Nat → Int32) => [(q_t, .inr (6, [.ref q_t_letters, .ref q_t_base, .int u.1])), (q_t_letters, .inl (cI, 24, .inl u.2.1)), (q_t_base, .inl (cI, 25, .inl u.2.2))]) (va_A [(q_t, .inr (6, [.ref q_t_letters, .ref q_t_base, .int F_size])), (q_t_letters, .inl (cI, 24, .inl A_letters)), (q_t_base, .inl (cI, 25, .inl A_base))] sz)) 0 0 (va_A [(q_t, .inr (6, [.ref q_t_letters, .ref q_t_base, .int F_size])), (q_t_letters, .inl (cI, 24, .inl A_letters)), (q_t_base, .inl (cI, 25, .inl A_base))] sz) := by
  refine ms_tv (cc := cX6_append) (maxL := 3) (by decide) rfl (Nat.le_of_ble_eq_true rfl) ?_
  intro p e s m args below meth c Q A hx hb hml hown hts hK hP hD hS hA hRet ls hl
  have hl : lv_has ls 3 [(0, .ref q_t), (1, .int p0)] := hl
  have hown : s.vm.findClass RX6 = some m.cls := hown
  refine lv_aload_n hx hb dX6_append_0 rfl (lv_at hl 0 rfl) ?_
  refine va_get (D := G) (ci := 6) (v := .int F_size) (C := RX6) (T := TX6) (N := 3) hx hb hts hkX6_append_X6 hown hK hP 0 rfl rfl 2 (by decide) (hts (.fieldLink RX6 18 "NestReaders$Row" "size" "I") hfX6_append_18) (fun _ h9 => h9) rfl dX6_append_1 ?_
  refine lv_bipush (v := (24)) hx hb dX6_append_4 (by decide) ?_
  refine lv_icmp_lt (tgt := 10) hx hb dX6_append_6 (by decide) (fun c1 => ?_) (fun c1 => ?_)
  · have hw := hw.1 c1
    refine lv_aload_n hx hb dX6_append_10 rfl (lv_at hl 0 rfl) ?_
    refine lv_aload_n hx hb dX6_append_11 rfl (lv_at hl 0 rfl) ?_
    refine va_get (D := G) (ci := 6) (v := .int F_size) (C := RX6) (T := TX6) (N := 3) hx hb hts hkX6_append_X6 hown hK hP 0 rfl rfl 2 (by decide) (hts (.fieldLink RX6 18 "NestReaders$Row" "size" "I") hfX6_append_18) (fun _ h9 => h9) rfl dX6_append_12 ?_
    refine ms_cVi ⟨hx, hb, hml, hown, hts⟩ hK hP hD (c_X6_openAt l G cI cJ cZ q_t q_t_letters q_t_base F_size A_letters A_base F_size hw) gX6_append_X6_openAt rfl nd_X6_openAt (ci := 6) rfl rfl rfl ⟨rfl, rfl⟩ rfl ⟨Nat.le_of_ble_eq_true rfl, Nat.le_of_ble_eq_true rfl⟩ hl.1 (rest := []) rfl (Nat.le_of_ble_eq_true rfl)  [0, 1, 2] rfl rfl dX6_append_15 (fun r2 hw => ?_)
    refine lv_istore_n (lv' := [(2, .int r2), (0, .ref q_t), (1, .int p0)]) hx hb dX6_append_18 rfl hl (by decide) rfl (fun ls hl => ?_)
    refine lv_aload_n hx hb dX6_append_19 rfl (lv_at hl 1 rfl) ?_
    refine va_get (D := G) (ci := 6) (v := .ref q_t_letters) (C := RX6) (T := TX6) (N := 3) hx hb hts hkX6_append_X6 hown hK hP 0 rfl rfl 0 (by decide) (hts (.fieldLink RX6 9 "NestReaders$Row" "letters" "[I") hfX6_append_9) (fun _ h9 => h9) rfl dX6_append_20 ?_
    refine lv_aload_n hx hb dX6_append_23 rfl (lv_at hl 1 rfl) ?_
    refine va_get (D := G) (ci := 6) (v := .int F_size) (C := RX6) (T := TX6) (N := 3) hx hb hts hkX6_append_X6 hown hK hP 0 rfl rfl 2 (by decide) (hts (.fieldLink RX6 18 "NestReaders$Row" "size" "I") hfX6_append_18) (fun _ h9 => h9) rfl dX6_append_24 ?_
    refine lv_iload_n hx hb dX6_append_27 rfl (lv_at hl 2 rfl) ?_
    refine ms_iast hx hb hK hP hD hS 1 0 rfl rfl hw.1 dX6_append_28 (fun g3 H locs eg3 hP hD hS => ?_)
    have hw := hw.2 g3 eg3
    have hP : va_P G vwCl [(q_t, .inr (6, [.ref q_t_letters, .ref q_t_base, .int F_size])), (q_t_letters, .inl (cI, 24, .inl g3)), (q_t_base, .inl (cI, 25, .inl A_base))] H := hP
    have hD : va_D A [(q_t, .inr (6, [.ref q_t_letters, .ref q_t_base, .int F_size])), (q_t_letters, .inl (cI, 24, .inl g3)), (q_t_base, .inl (cI, 25, .inl A_base))] := hD
    refine lv_aload_n hx hb dX6_append_29 rfl (lv_at hl 1 rfl) ?_
    refine lv_dup hx hb dX6_append_30 rfl ?_
    refine va_get (D := G) (ci := 6) (v := .int F_size) (C := RX6) (T := TX6) (N := 3) hx hb hts hkX6_append_X6 hown hK hP 0 rfl rfl 2 (by decide) (hts (.fieldLink RX6 18 "NestReaders$Row" "size" "I") hfX6_append_18) (fun _ h9 => h9) rfl dX6_append_31 ?_
    refine lv_iconst (v := 1) hx hb dX6_append_34 (by decide) ?_
    refine lv_iadd hx hb dX6_append_35 ?_
    refine lv_topi (fun x4 ex4 => ?_)
    have hw := hw x4 ex4
    refine va_put (D := G) (ci := 6) (v := .int x4) (ty := .int) (C := RX6) (T := TX6) (N := 3) hx hb hts hkX6_append_X6 tyX6 tyX6_ok nmX6 hown hK hP hD hS 0 rfl rfl 2 (by decide) (hts (.fieldLink RX6 18 "NestReaders$Row" "size" "I") hfX6_append_18) (fun _ h9 => h9) rfl (by decide +kernel) rfl rfl (Nat.le_of_ble_eq_true rfl) dX6_append_36 (fun H locs hP hD hS => ?_)
    have hP : va_P G vwCl [(q_t, .inr (6, [.ref q_t_letters, .ref q_t_base, .int x4])), (q_t_letters, .inl (cI, 24, .inl g3)), (q_t_base, .inl (cI, 25, .inl A_base))] H := hP
    have hD : va_D A [(q_t, .inr (6, [.ref q_t_letters, .ref q_t_base, .int x4])), (q_t_letters, .inl (cI, 24, .inl g3)), (q_t_base, .inl (cI, 25, .inl A_base))] := hD
    refine lv_iload_n hx hb dX6_append_39 rfl (lv_at hl 2 rfl) ?_
    refine ms_cSi ⟨hx, hb, hml, hown, hts⟩ hK hP hD (c_X5_isPlain l G cI cJ cZ p0 hw) gX6_append_X5_isPlain rfl nd_X5_isPlain ⟨rfl, rfl⟩ rfl ⟨Nat.le_of_ble_eq_true rfl, Nat.le_of_ble_eq_true rfl⟩ hl.1 (rest := []) rfl (Nat.le_of_ble_eq_true rfl)  [] rfl rfl dX6_append_40 (fun r5 hw => ?_)
    have zzr5 := hw.1
    have hw := hw.2
    refine lv_if_eq (tgt := 69) hx hb dX6_append_43 (by decide) (fun c6 => ?_) (fun c6 => ?_)
    · have hw := hw.1 c6
      refine lv_iload_n hx hb dX6_append_69 rfl (lv_at hl 2 rfl) ?_
      refine ms_cSi ⟨hx, hb, hml, hown, hts⟩ hK hP hD (c_X5_closes l G cI cJ cZ p0 hw) gX6_append_X5_closes rfl nd_X5_closes ⟨rfl, rfl⟩ rfl ⟨Nat.le_of_ble_eq_true rfl, Nat.le_of_ble_eq_true rfl⟩ hl.1 (rest := []) rfl (Nat.le_of_ble_eq_true rfl)  [] rfl rfl dX6_append_70 (fun r7 hw => ?_)
      have zzr7 := hw.1
      have hw := hw.2
      refine lv_if_eq (tgt := 99) hx hb dX6_append_73 (by decide) (fun c8 => ?_) (fun c8 => ?_)
      · have hw := hw.1 c8
        refine lv_aload_n hx hb dX6_append_99 rfl (lv_at hl 1 rfl) ?_
        refine va_get (D := G) (ci := 6) (v := .ref q_t_base) (C := RX6) (T := TX6) (N := 3) hx hb hts hkX6_append_X6 hown hK hP 0 rfl rfl 1 (by decide) (hts (.fieldLink RX6 15 "NestReaders$Row" "base" "[I") hfX6_append_15) (fun _ h9 => h9) rfl dX6_append_100 ?_
        refine lv_aload_n hx hb dX6_append_103 rfl (lv_at hl 1 rfl) ?_
        refine va_get (D := G) (ci := 6) (v := .int x4) (C := RX6) (T := TX6) (N := 3) hx hb hts hkX6_append_X6 hown hK hP 0 rfl rfl 2 (by decide) (hts (.fieldLink RX6 18 "NestReaders$Row" "size" "I") hfX6_append_18) (fun _ h9 => h9) rfl dX6_append_104 ?_
        refine lv_aload_n hx hb dX6_append_107 rfl (lv_at hl 1 rfl) ?_
        refine va_get (D := G) (ci := 6) (v := .int x4) (C := RX6) (T := TX6) (N := 3) hx hb hts hkX6_append_X6 hown hK hP 0 rfl rfl 2 (by decide) (hts (.fieldLink RX6 18 "NestReaders$Row" "size" "I") hfX6_append_18) (fun _ h9 => h9) rfl dX6_append_108 ?_
        refine ms_iast hx hb hK hP hD hS 2 0 rfl rfl hw.1 dX6_append_111 (fun g9 H locs eg9 hP hD hS => ?_)
        have hw := hw.2 g9 eg9
        have hP : va_P G vwCl [(q_t, .inr (6, [.ref q_t_letters, .ref q_t_base, .int x4])), (q_t_letters, .inl (cI, 24, .inl g3)), (q_t_base, .inl (cI, 25, .inl g9))] H := hP
        have hD : va_D A [(q_t, .inr (6, [.ref q_t_letters, .ref q_t_base, .int x4])), (q_t_letters, .inl (cI, 24, .inl g3)), (q_t_base, .inl (cI, 25, .inl g9))] := hD
        exact hRet ⟨x4, g3, g9⟩ H locs _ _ hw hP hD hS dX6_append_112
      · have hw := hw.2 c8
        refine lv_iload_n hx hb dX6_append_76 rfl (lv_at hl 0 rfl) ?_
        refine lv_iconst (v := (-1)) hx hb dX6_append_77 (by decide) ?_
        refine lv_icmp_eq (tgt := 99) hx hb dX6_append_78 (by decide) (fun c10 => ?_) (fun c10 => ?_)
        · have hw := hw.1 c10
          refine lv_aload_n hx hb dX6_append_99 rfl (lv_at hl 1 rfl) ?_
          refine va_get (D := G) (ci := 6) (v := .ref q_t_base) (C := RX6) (T := TX6) (N := 3) hx hb hts hkX6_append_X6 hown hK hP 0 rfl rfl 1 (by decide) (hts (.fieldLink RX6 15 "NestReaders$Row" "base" "[I") hfX6_append_15) (fun _ h9 => h9) rfl dX6_append_100 ?_
          refine lv_aload_n hx hb dX6_append_103 rfl (lv_at hl 1 rfl) ?_
          refine va_get (D := G) (ci := 6) (v := .int x4) (C := RX6) (T := TX6) (N := 3) hx hb hts hkX6_append_X6 hown hK hP 0 rfl rfl 2 (by decide) (hts (.fieldLink RX6 18 "NestReaders$Row" "size" "I") hfX6_append_18) (fun _ h9 => h9) rfl dX6_append_104 ?_
          refine lv_aload_n hx hb dX6_append_107 rfl (lv_at hl 1 rfl) ?_
          refine va_get (D := G) (ci := 6) (v := .int x4) (C := RX6) (T := TX6) (N := 3) hx hb hts hkX6_append_X6 hown hK hP 0 rfl rfl 2 (by decide) (hts (.fieldLink RX6 18 "NestReaders$Row" "size" "I") hfX6_append_18) (fun _ h9 => h9) rfl dX6_append_108 ?_
          refine ms_iast hx hb hK hP hD hS 2 0 rfl rfl hw.1 dX6_append_111 (fun g11 H locs eg11 hP hD hS => ?_)
          have hw := hw.2 g11 eg11
          have hP : va_P G vwCl [(q_t, .inr (6, [.ref q_t_letters, .ref q_t_base, .int x4])), (q_t_letters, .inl (cI, 24, .inl g3)), (q_t_base, .inl (cI, 25, .inl g11))] H := hP
          have hD : va_D A [(q_t, .inr (6, [.ref q_t_letters, .ref q_t_base, .int x4])), (q_t_letters, .inl (cI, 24, .inl g3)), (q_t_base, .inl (cI, 25, .inl g11))] := hD
          exact hRet ⟨x4, g3, g11⟩ H locs _ _ hw hP hD hS dX6_append_112
        · have hw := hw.2 c10
          refine lv_aload_n hx hb dX6_append_81 rfl (lv_at hl 1 rfl) ?_
          refine va_get (D := G) (ci := 6) (v := .ref q_t_base) (C := RX6) (T := TX6) (N := 3) hx hb hts hkX6_append_X6 hown hK hP 0 rfl rfl 1 (by decide) (hts (.fieldLink RX6 15 "NestReaders$Row" "base" "[I") hfX6_append_15) (fun _ h9 => h9) rfl dX6_append_82 ?_
          refine lv_aload_n hx hb dX6_append_85 rfl (lv_at hl 1 rfl) ?_
          refine va_get (D := G) (ci := 6) (v := .int x4) (C := RX6) (T := TX6) (N := 3) hx hb hts hkX6_append_X6 hown hK hP 0 rfl rfl 2 (by decide) (hts (.fieldLink RX6 18 "NestReaders$Row" "size" "I") hfX6_append_18) (fun _ h9 => h9) rfl dX6_append_86 ?_
          refine lv_aload_n hx hb dX6_append_89 rfl (lv_at hl 1 rfl) ?_
          refine va_get (D := G) (ci := 6) (v := .ref q_t_base) (C := RX6) (T := TX6) (N := 3) hx hb hts hkX6_append_X6 hown hK hP 0 rfl rfl 1 (by decide) (hts (.fieldLink RX6 15 "NestReaders$Row" "base" "[I") hfX6_append_15) (fun _ h9 => h9) rfl dX6_append_90 ?_
          refine lv_iload_n hx hb dX6_append_93 rfl (lv_at hl 0 rfl) ?_
          refine va_iald (D := G) hx hb hK hP 2 0 rfl rfl hw.1 dX6_append_94 ?_
          have hw := hw.2
          refine ms_iast hx hb hK hP hD hS 2 0 rfl rfl hw.1 dX6_append_95 (fun g12 H locs eg12 hP hD hS => ?_)
          have hw := hw.2 g12 eg12
          have hP : va_P G vwCl [(q_t, .inr (6, [.ref q_t_letters, .ref q_t_base, .int x4])), (q_t_letters, .inl (cI, 24, .inl g3)), (q_t_base, .inl (cI, 25, .inl g12))] H := hP
          have hD : va_D A [(q_t, .inr (6, [.ref q_t_letters, .ref q_t_base, .int x4])), (q_t_letters, .inl (cI, 24, .inl g3)), (q_t_base, .inl (cI, 25, .inl g12))] := hD
          refine lv_goto (tgt := 112) hx hb dX6_append_96 (by decide) ?_
          exact hRet ⟨x4, g3, g12⟩ H locs _ _ hw hP hD hS dX6_append_112
    · have hw := hw.2 c6
      refine lv_aload_n hx hb dX6_append_46 rfl (lv_at hl 1 rfl) ?_
      refine va_get (D := G) (ci := 6) (v := .ref q_t_base) (C := RX6) (T := TX6) (N := 3) hx hb hts hkX6_append_X6 hown hK hP 0 rfl rfl 1 (by decide) (hts (.fieldLink RX6 15 "NestReaders$Row" "base" "[I") hfX6_append_15) (fun _ h9 => h9) rfl dX6_append_47 ?_
      refine lv_aload_n hx hb dX6_append_50 rfl (lv_at hl 1 rfl) ?_
      refine va_get (D := G) (ci := 6) (v := .int x4) (C := RX6) (T := TX6) (N := 3) hx hb hts hkX6_append_X6 hown hK hP 0 rfl rfl 2 (by decide) (hts (.fieldLink RX6 18 "NestReaders$Row" "size" "I") hfX6_append_18) (fun _ h9 => h9) rfl dX6_append_51 ?_
      refine lv_aload_n hx hb dX6_append_54 rfl (lv_at hl 1 rfl) ?_
      refine va_get (D := G) (ci := 6) (v := .ref q_t_base) (C := RX6) (T := TX6) (N := 3) hx hb hts hkX6_append_X6 hown hK hP 0 rfl rfl 1 (by decide) (hts (.fieldLink RX6 15 "NestReaders$Row" "base" "[I") hfX6_append_15) (fun _ h9 => h9) rfl dX6_append_55 ?_
      refine lv_aload_n hx hb dX6_append_58 rfl (lv_at hl 1 rfl) ?_
      refine va_get (D := G) (ci := 6) (v := .int x4) (C := RX6) (T := TX6) (N := 3) hx hb hts hkX6_append_X6 hown hK hP 0 rfl rfl 2 (by decide) (hts (.fieldLink RX6 18 "NestReaders$Row" "size" "I") hfX6_append_18) (fun _ h9 => h9) rfl dX6_append_59 ?_
      refine lv_iconst (v := 1) hx hb dX6_append_62 (by decide) ?_
      refine lv_isub hx hb dX6_append_63 ?_
      refine va_iald (D := G) hx hb hK hP 2 0 rfl rfl hw.1 dX6_append_64 ?_
      have hw := hw.2
      refine lv_topi (fun x13 ex13 => ?_)
      have hw := hw x13 ex13
      refine ms_iast hx hb hK hP hD hS 2 0 rfl rfl hw.1 dX6_append_65 (fun g14 H locs eg14 hP hD hS => ?_)
      have hw := hw.2 g14 eg14
      have hP : va_P G vwCl [(q_t, .inr (6, [.ref q_t_letters, .ref q_t_base, .int x4])), (q_t_letters, .inl (cI, 24, .inl g3)), (q_t_base, .inl (cI, 25, .inl g14))] H := hP
      have hD : va_D A [(q_t, .inr (6, [.ref q_t_letters, .ref q_t_base, .int x4])), (q_t_letters, .inl (cI, 24, .inl g3)), (q_t_base, .inl (cI, 25, .inl g14))] := hD
      refine lv_goto (tgt := 112) hx hb dX6_append_66 (by decide) ?_
      exact hRet ⟨x4, g3, g14⟩ H locs _ _ hw hP hD hS dX6_append_112
  · have hw := hw.2 c1
    exact hRet ⟨F_size, A_letters, A_base⟩ s.heap [] _ _ hw hP hD hS dX6_append_9
