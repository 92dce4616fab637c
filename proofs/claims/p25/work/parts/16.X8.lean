theorem dX8_init_0 : decode cX8_init 0 = .ok (.aload_n 0, 1) := by decide +kernel
theorem dX8_init_1 : decode cX8_init 1 = .ok (.invokespecial 3, 3) := by decide +kernel
theorem dX8_init_4 : decode cX8_init 4 = .ok (.aload_n 0, 1) := by decide +kernel
theorem dX8_init_5 : decode cX8_init 5 = .ok (.sipush 160, 3) := by decide +kernel
theorem dX8_init_8 : decode cX8_init 8 = .ok (.newarray .int, 2) := by decide +kernel
theorem dX8_init_10 : decode cX8_init 10 = .ok (.putfield 9, 3) := by decide +kernel
theorem dX8_init_13 : decode cX8_init 13 = .ok (.aload_n 0, 1) := by decide +kernel
theorem dX8_init_14 : decode cX8_init 14 = .ok (.iconst 0, 1) := by decide +kernel
theorem dX8_init_15 : decode cX8_init 15 = .ok (.putfield 15, 3) := by decide +kernel
theorem dX8_init_18 : decode cX8_init 18 = .ok (.aload_n 0, 1) := by decide +kernel
theorem dX8_init_19 : decode cX8_init 19 = .ok (.iconst 0, 1) := by decide +kernel
theorem dX8_init_20 : decode cX8_init 20 = .ok (.putfield 19, 3) := by decide +kernel
theorem dX8_init_23 : decode cX8_init 23 = .ok (.aload_n 0, 1) := by decide +kernel
theorem dX8_init_24 : decode cX8_init 24 = .ok (.iconst 0, 1) := by decide +kernel
theorem dX8_init_25 : decode cX8_init 25 = .ok (.putfield 22, 3) := by decide +kernel
theorem dX8_init_28 : decode cX8_init 28 = .ok (.aload_n 0, 1) := by decide +kernel
theorem dX8_init_29 : decode cX8_init 29 = .ok (.iconst 0, 1) := by decide +kernel
theorem dX8_init_30 : decode cX8_init 30 = .ok (.putfield 25, 3) := by decide +kernel
theorem dX8_init_33 : decode cX8_init 33 = .ok (.aload_n 0, 1) := by decide +kernel
theorem dX8_init_34 : decode cX8_init 34 = .ok (.iconst 0, 1) := by decide +kernel
theorem dX8_init_35 : decode cX8_init 35 = .ok (.putfield 28, 3) := by decide +kernel
theorem dX8_init_38 : decode cX8_init 38 = .ok (.aload_n 0, 1) := by decide +kernel
theorem dX8_init_39 : decode cX8_init 39 = .ok (.iconst 0, 1) := by decide +kernel
theorem dX8_init_40 : decode cX8_init 40 = .ok (.putfield 31, 3) := by decide +kernel
theorem dX8_init_43 : decode cX8_init 43 = .ok (.aload_n 0, 1) := by decide +kernel
theorem dX8_init_44 : decode cX8_init 44 = .ok (.iconst 0, 1) := by decide +kernel
theorem dX8_init_45 : decode cX8_init 45 = .ok (.putfield 34, 3) := by decide +kernel
theorem dX8_init_48 : decode cX8_init 48 = .ok (.return_, 1) := by decide +kernel
theorem dX8_size_0 : decode cX8_size 0 = .ok (.aload_n 0, 1) := by decide +kernel
theorem dX8_size_1 : decode cX8_size 1 = .ok (.getfield 15, 3) := by decide +kernel
theorem dX8_size_4 : decode cX8_size 4 = .ok (.ireturn, 1) := by decide +kernel
theorem dX8_empty_0 : decode cX8_empty 0 = .ok (.aload_n 0, 1) := by decide +kernel
theorem dX8_empty_1 : decode cX8_empty 1 = .ok (.iconst 0, 1) := by decide +kernel
theorem dX8_empty_2 : decode cX8_empty 2 = .ok (.putfield 15, 3) := by decide +kernel
theorem dX8_empty_5 : decode cX8_empty 5 = .ok (.return_, 1) := by decide +kernel
theorem dX8_append_0 : decode cX8_append 0 = .ok (.aload_n 0, 1) := by decide +kernel
theorem dX8_append_1 : decode cX8_append 1 = .ok (.getfield 15, 3) := by decide +kernel
theorem dX8_append_4 : decode cX8_append 4 = .ok (.aload_n 0, 1) := by decide +kernel
theorem dX8_append_5 : decode cX8_append 5 = .ok (.getfield 9, 3) := by decide +kernel
theorem dX8_append_8 : decode cX8_append 8 = .ok (.arraylength, 1) := by decide +kernel
theorem dX8_append_9 : decode cX8_append 9 = .ok (.if_icmp .ge 23, 3) := by decide +kernel
theorem dX8_append_12 : decode cX8_append 12 = .ok (.aload_n 0, 1) := by decide +kernel
theorem dX8_append_13 : decode cX8_append 13 = .ok (.getfield 9, 3) := by decide +kernel
theorem dX8_append_16 : decode cX8_append 16 = .ok (.aload_n 0, 1) := by decide +kernel
theorem dX8_append_17 : decode cX8_append 17 = .ok (.getfield 15, 3) := by decide +kernel
theorem dX8_append_20 : decode cX8_append 20 = .ok (.iload_n 1, 1) := by decide +kernel
theorem dX8_append_21 : decode cX8_append 21 = .ok (.iastore, 1) := by decide +kernel
theorem dX8_append_22 : decode cX8_append 22 = .ok (.aload_n 0, 1) := by decide +kernel
theorem dX8_append_23 : decode cX8_append 23 = .ok (.dup, 1) := by decide +kernel
theorem dX8_append_24 : decode cX8_append 24 = .ok (.getfield 15, 3) := by decide +kernel
theorem dX8_append_27 : decode cX8_append 27 = .ok (.iconst 1, 1) := by decide +kernel
theorem dX8_append_28 : decode cX8_append 28 = .ok (.iadd, 1) := by decide +kernel
theorem dX8_append_29 : decode cX8_append 29 = .ok (.putfield 15, 3) := by decide +kernel
theorem dX8_append_32 : decode cX8_append 32 = .ok (.return_, 1) := by decide +kernel
theorem ggX8_faultFor_X8_step : GoodIn wsX8_faultFor wsX8_step := gdC (gd1 m13_0)
theorem gX8_faultFor_X8_step : GoodIn wsX8_faultFor (wsV RX8 37 RX8 yX8_step wsX8_step) := gdC (gd4 m12_21 m12_22 m12_23 m1_20 m13_0)
theorem ggX8_faultFor_X8_readMove : GoodIn wsX8_faultFor wsX8_readMove := gdC (gd1 m13_11)
theorem gX8_faultFor_X8_readMove : GoodIn wsX8_faultFor (wsV RX8 40 RX8 yX8_readMove wsX8_readMove) := gdC (gd4 m13_8 m13_9 m13_10 m1_20 m13_11)
theorem ggX8_faultFor_X5_add : GoodIn wsX8_faultFor wsX5_add := gdC (gd1 m17_2)
theorem gX8_faultFor_X5_add : GoodIn wsX8_faultFor (wsV RX8 44 RX5 yX5_add wsX5_add) := gdC (gd4 m16_23 m17_0 m17_1 m1_15 m17_2)
theorem ggX8_faultFor_X8_head : GoodIn wsX8_faultFor wsX8_head := gdC (gd1 m13_19)
theorem gX8_faultFor_X8_head : GoodIn wsX8_faultFor (wsV RX8 50 RX8 yX8_head wsX8_head) := gdC (gd4 m13_16 m13_17 m13_18 m1_20 m13_19)
theorem dX8_faultFor_0 : decode cX8_faultFor 0 = .ok (.aload_n 0, 1) := by decide +kernel
theorem dX8_faultFor_1 : decode cX8_faultFor 1 = .ok (.iconst 0, 1) := by decide +kernel
theorem dX8_faultFor_2 : decode cX8_faultFor 2 = .ok (.putfield 22, 3) := by decide +kernel
theorem dX8_faultFor_5 : decode cX8_faultFor 5 = .ok (.aload_n 0, 1) := by decide +kernel
theorem dX8_faultFor_6 : decode cX8_faultFor 6 = .ok (.invokevirtual 37, 3) := by decide +kernel
theorem dX8_faultFor_9 : decode cX8_faultFor 9 = .ok (.iconst 1, 1) := by decide +kernel
theorem dX8_faultFor_10 : decode cX8_faultFor 10 = .ok (.istore_n 3, 1) := by decide +kernel
theorem dX8_faultFor_11 : decode cX8_faultFor 11 = .ok (.iload_n 3, 1) := by decide +kernel
theorem dX8_faultFor_12 : decode cX8_faultFor 12 = .ok (.bipush 16, 2) := by decide +kernel
theorem dX8_faultFor_14 : decode cX8_faultFor 14 = .ok (.if_icmp .gt 80, 3) := by decide +kernel
theorem dX8_faultFor_17 : decode cX8_faultFor 17 = .ok (.aload_n 0, 1) := by decide +kernel
theorem dX8_faultFor_18 : decode cX8_faultFor 18 = .ok (.aload_n 1, 1) := by decide +kernel
theorem dX8_faultFor_19 : decode cX8_faultFor 19 = .ok (.invokevirtual 40, 3) := by decide +kernel
theorem dX8_faultFor_22 : decode cX8_faultFor 22 = .ok (.ifCond .ne 8, 3) := by decide +kernel
theorem dX8_faultFor_25 : decode cX8_faultFor 25 = .ok (.aload_n 0, 1) := by decide +kernel
theorem dX8_faultFor_26 : decode cX8_faultFor 26 = .ok (.getfield 19, 3) := by decide +kernel
theorem dX8_faultFor_29 : decode cX8_faultFor 29 = .ok (.ireturn, 1) := by decide +kernel
theorem dX8_faultFor_30 : decode cX8_faultFor 30 = .ok (.iload_n 2, 1) := by decide +kernel
theorem dX8_faultFor_31 : decode cX8_faultFor 31 = .ok (.ifCond .eq 23, 3) := by decide +kernel
theorem dX8_faultFor_34 : decode cX8_faultFor 34 = .ok (.aload_n 1, 1) := by decide +kernel
theorem dX8_faultFor_35 : decode cX8_faultFor 35 = .ok (.aload_n 0, 1) := by decide +kernel
theorem dX8_faultFor_36 : decode cX8_faultFor 36 = .ok (.getfield 25, 3) := by decide +kernel
theorem dX8_faultFor_39 : decode cX8_faultFor 39 = .ok (.aload_n 0, 1) := by decide +kernel
theorem dX8_faultFor_40 : decode cX8_faultFor 40 = .ok (.getfield 28, 3) := by decide +kernel
theorem dX8_faultFor_43 : decode cX8_faultFor 43 = .ok (.aload_n 0, 1) := by decide +kernel
theorem dX8_faultFor_44 : decode cX8_faultFor 44 = .ok (.getfield 31, 3) := by decide +kernel
theorem dX8_faultFor_47 : decode cX8_faultFor 47 = .ok (.aload_n 0, 1) := by decide +kernel
theorem dX8_faultFor_48 : decode cX8_faultFor 48 = .ok (.getfield 34, 3) := by decide +kernel
theorem dX8_faultFor_51 : decode cX8_faultFor 51 = .ok (.invokevirtual 44, 3) := by decide +kernel
theorem dX8_faultFor_54 : decode cX8_faultFor 54 = .ok (.aload_n 0, 1) := by decide +kernel
theorem dX8_faultFor_55 : decode cX8_faultFor 55 = .ok (.invokevirtual 50, 3) := by decide +kernel
theorem dX8_faultFor_58 : decode cX8_faultFor 58 = .ok (.iconst (-1), 1) := by decide +kernel
theorem dX8_faultFor_59 : decode cX8_faultFor 59 = .ok (.if_icmp .ne 5, 3) := by decide +kernel
theorem dX8_faultFor_62 : decode cX8_faultFor 62 = .ok (.iconst (-1), 1) := by decide +kernel
theorem dX8_faultFor_63 : decode cX8_faultFor 63 = .ok (.ireturn, 1) := by decide +kernel
theorem dX8_faultFor_64 : decode cX8_faultFor 64 = .ok (.aload_n 0, 1) := by decide +kernel
theorem dX8_faultFor_65 : decode cX8_faultFor 65 = .ok (.invokevirtual 50, 3) := by decide +kernel
theorem dX8_faultFor_68 : decode cX8_faultFor 68 = .ok (.bipush 59, 2) := by decide +kernel
theorem dX8_faultFor_70 : decode cX8_faultFor 70 = .ok (.if_icmp .ne 9, 3) := by decide +kernel
theorem dX8_faultFor_73 : decode cX8_faultFor 73 = .ok (.iload_n 3, 1) := by decide +kernel
theorem dX8_faultFor_74 : decode cX8_faultFor 74 = .ok (.bipush 16, 2) := by decide +kernel
theorem dX8_faultFor_76 : decode cX8_faultFor 76 = .ok (.if_icmp .ne 8, 3) := by decide +kernel
theorem dX8_faultFor_79 : decode cX8_faultFor 79 = .ok (.aload_n 0, 1) := by decide +kernel
theorem dX8_faultFor_80 : decode cX8_faultFor 80 = .ok (.getfield 19, 3) := by decide +kernel
theorem dX8_faultFor_83 : decode cX8_faultFor 83 = .ok (.ireturn, 1) := by decide +kernel
theorem dX8_faultFor_84 : decode cX8_faultFor 84 = .ok (.aload_n 0, 1) := by decide +kernel
theorem dX8_faultFor_85 : decode cX8_faultFor 85 = .ok (.invokevirtual 37, 3) := by decide +kernel
theorem dX8_faultFor_88 : decode cX8_faultFor 88 = .ok (.iinc 3 1, 3) := by decide +kernel
theorem dX8_faultFor_91 : decode cX8_faultFor 91 = .ok (.goto (-80), 3) := by decide +kernel
theorem dX8_faultFor_94 : decode cX8_faultFor 94 = .ok (.aload_n 0, 1) := by decide +kernel
theorem dX8_faultFor_95 : decode cX8_faultFor 95 = .ok (.getfield 19, 3) := by decide +kernel
theorem dX8_faultFor_98 : decode cX8_faultFor 98 = .ok (.ireturn, 1) := by decide +kernel
theorem ggX8_readMove_X8_digit : GoodIn wsX8_readMove wsX8_digit := gdC (gd1 m13_15)
theorem gX8_readMove_X8_digit : GoodIn wsX8_readMove (wsV RX8 54 RX8 yX8_digit wsX8_digit) := gdC (gd4 m13_12 m13_13 m13_14 m1_20 m13_15)
theorem ggX8_readMove_X5_isState : GoodIn wsX8_readMove wsX5_isState := gdC (gd1 m13_23)
theorem gX8_readMove_X5_isState : GoodIn wsX8_readMove (wsV RX8 57 RX5 yX5_isState wsX5_isState) := gdC (gd4 m13_20 m13_21 m13_22 m1_15 m13_23)
theorem ggX8_readMove_X8_pass : GoodIn wsX8_readMove wsX8_pass := gdC (gd1 m14_3)
theorem gX8_readMove_X8_pass : GoodIn wsX8_readMove (wsV RX8 61 RX8 yX8_pass wsX8_pass) := gdC (gd4 m14_0 m14_1 m14_2 m1_20 m14_3)
theorem ggX8_readMove_X8_head : GoodIn wsX8_readMove wsX8_head := gdC (gd1 m13_19)
theorem gX8_readMove_X8_head : GoodIn wsX8_readMove (wsV RX8 50 RX8 yX8_head wsX8_head) := gdC (gd4 m13_16 m13_17 m13_18 m1_20 m13_19)
theorem ggX8_readMove_X5_closes : GoodIn wsX8_readMove wsX5_closes := gdC (gd1 m14_6)
theorem gX8_readMove_X5_closes : GoodIn wsX8_readMove (va_wsS RX8 65 yX5_closes wsX5_closes) := gdC (gd3 m14_4 m14_5 m1_15 m14_6)
theorem ggX8_readMove_X8_isWord : GoodIn wsX8_readMove wsX8_isWord := gdC (gd1 m14_10)
theorem gX8_readMove_X8_isWord : GoodIn wsX8_readMove (wsV RX8 70 RX8 yX8_isWord wsX8_isWord) := gdC (gd4 m14_7 m14_8 m14_9 m1_20 m14_10)
theorem ggX8_readMove_X8_readMark : GoodIn wsX8_readMove wsX8_readMark := gdC (gd1 m16_15)
theorem gX8_readMove_X8_readMark : GoodIn wsX8_readMove (wsV RX8 74 RX8 yX8_readMark wsX8_readMark) := gdC (gd4 m16_12 m16_13 m16_14 m1_20 m16_15)
theorem ggX8_readMove_X5_opens : GoodIn wsX8_readMove wsX5_opens := gdC (gd1 m16_22)
theorem gX8_readMove_X5_opens : GoodIn wsX8_readMove (va_wsS RX8 79 yX5_opens wsX5_opens) := gdC (gd3 m16_20 m16_21 m1_15 m16_22)
theorem dX8_readMove_0 : decode cX8_readMove 0 = .ok (.aload_n 0, 1) := by decide +kernel
theorem dX8_readMove_1 : decode cX8_readMove 1 = .ok (.aload_n 0, 1) := by decide +kernel
theorem dX8_readMove_2 : decode cX8_readMove 2 = .ok (.invokevirtual 54, 3) := by decide +kernel
theorem dX8_readMove_5 : decode cX8_readMove 5 = .ok (.putfield 25, 3) := by decide +kernel
theorem dX8_readMove_8 : decode cX8_readMove 8 = .ok (.aload_n 0, 1) := by decide +kernel
theorem dX8_readMove_9 : decode cX8_readMove 9 = .ok (.aload_n 1, 1) := by decide +kernel
theorem dX8_readMove_10 : decode cX8_readMove 10 = .ok (.aload_n 0, 1) := by decide +kernel
theorem dX8_readMove_11 : decode cX8_readMove 11 = .ok (.getfield 25, 3) := by decide +kernel
theorem dX8_readMove_14 : decode cX8_readMove 14 = .ok (.invokevirtual 57, 3) := by decide +kernel
theorem dX8_readMove_17 : decode cX8_readMove 17 = .ok (.invokevirtual 61, 3) := by decide +kernel
theorem dX8_readMove_20 : decode cX8_readMove 20 = .ok (.ifCond .ne 5, 3) := by decide +kernel
theorem dX8_readMove_23 : decode cX8_readMove 23 = .ok (.iconst 0, 1) := by decide +kernel
theorem dX8_readMove_24 : decode cX8_readMove 24 = .ok (.ireturn, 1) := by decide +kernel
theorem dX8_readMove_25 : decode cX8_readMove 25 = .ok (.aload_n 0, 1) := by decide +kernel
theorem dX8_readMove_26 : decode cX8_readMove 26 = .ok (.aload_n 0, 1) := by decide +kernel
theorem dX8_readMove_27 : decode cX8_readMove 27 = .ok (.invokevirtual 50, 3) := by decide +kernel
theorem dX8_readMove_30 : decode cX8_readMove 30 = .ok (.bipush 97, 2) := by decide +kernel
theorem dX8_readMove_32 : decode cX8_readMove 32 = .ok (.isub, 1) := by decide +kernel
theorem dX8_readMove_33 : decode cX8_readMove 33 = .ok (.putfield 28, 3) := by decide +kernel
theorem dX8_readMove_36 : decode cX8_readMove 36 = .ok (.aload_n 0, 1) := by decide +kernel
theorem dX8_readMove_37 : decode cX8_readMove 37 = .ok (.aload_n 0, 1) := by decide +kernel
theorem dX8_readMove_38 : decode cX8_readMove 38 = .ok (.getfield 22, 3) := by decide +kernel
theorem dX8_readMove_41 : decode cX8_readMove 41 = .ok (.aload_n 0, 1) := by decide +kernel
theorem dX8_readMove_42 : decode cX8_readMove 42 = .ok (.getfield 19, 3) := by decide +kernel
theorem dX8_readMove_45 : decode cX8_readMove 45 = .ok (.isub, 1) := by decide +kernel
theorem dX8_readMove_46 : decode cX8_readMove 46 = .ok (.iconst 1, 1) := by decide +kernel
theorem dX8_readMove_47 : decode cX8_readMove 47 = .ok (.if_icmp .ne 23, 3) := by decide +kernel
theorem dX8_readMove_50 : decode cX8_readMove 50 = .ok (.aload_n 0, 1) := by decide +kernel
theorem dX8_readMove_51 : decode cX8_readMove 51 = .ok (.getfield 28, 3) := by decide +kernel
theorem dX8_readMove_54 : decode cX8_readMove 54 = .ok (.ifCond .lt 16, 3) := by decide +kernel
theorem dX8_readMove_57 : decode cX8_readMove 57 = .ok (.aload_n 0, 1) := by decide +kernel
theorem dX8_readMove_58 : decode cX8_readMove 58 = .ok (.getfield 28, 3) := by decide +kernel
theorem dX8_readMove_61 : decode cX8_readMove 61 = .ok (.bipush 6, 2) := by decide +kernel
theorem dX8_readMove_63 : decode cX8_readMove 63 = .ok (.if_icmp .ge 7, 3) := by decide +kernel
theorem dX8_readMove_66 : decode cX8_readMove 66 = .ok (.iconst 1, 1) := by decide +kernel
theorem dX8_readMove_67 : decode cX8_readMove 67 = .ok (.goto 4, 3) := by decide +kernel
theorem dX8_readMove_70 : decode cX8_readMove 70 = .ok (.iconst 0, 1) := by decide +kernel
theorem dX8_readMove_71 : decode cX8_readMove 71 = .ok (.invokevirtual 61, 3) := by decide +kernel
theorem dX8_readMove_74 : decode cX8_readMove 74 = .ok (.ifCond .ne 5, 3) := by decide +kernel
theorem dX8_readMove_77 : decode cX8_readMove 77 = .ok (.iconst 0, 1) := by decide +kernel
theorem dX8_readMove_78 : decode cX8_readMove 78 = .ok (.ireturn, 1) := by decide +kernel
theorem dX8_readMove_79 : decode cX8_readMove 79 = .ok (.aload_n 0, 1) := by decide +kernel
theorem dX8_readMove_80 : decode cX8_readMove 80 = .ok (.iconst 0, 1) := by decide +kernel
theorem dX8_readMove_81 : decode cX8_readMove 81 = .ok (.putfield 31, 3) := by decide +kernel
theorem dX8_readMove_84 : decode cX8_readMove 84 = .ok (.aload_n 0, 1) := by decide +kernel
theorem dX8_readMove_85 : decode cX8_readMove 85 = .ok (.getfield 28, 3) := by decide +kernel
theorem dX8_readMove_88 : decode cX8_readMove 88 = .ok (.invokestatic 65, 3) := by decide +kernel
theorem dX8_readMove_91 : decode cX8_readMove 91 = .ok (.ifCond .eq 27, 3) := by decide +kernel
theorem dX8_readMove_94 : decode cX8_readMove 94 = .ok (.aload_n 0, 1) := by decide +kernel
theorem dX8_readMove_95 : decode cX8_readMove 95 = .ok (.aload_n 0, 1) := by decide +kernel
theorem dX8_readMove_96 : decode cX8_readMove 96 = .ok (.ldc 68, 2) := by decide +kernel
theorem dX8_readMove_98 : decode cX8_readMove 98 = .ok (.invokevirtual 70, 3) := by decide +kernel
theorem dX8_readMove_101 : decode cX8_readMove 101 = .ok (.invokevirtual 61, 3) := by decide +kernel
theorem dX8_readMove_104 : decode cX8_readMove 104 = .ok (.ifCond .eq 12, 3) := by decide +kernel
theorem dX8_readMove_107 : decode cX8_readMove 107 = .ok (.aload_n 0, 1) := by decide +kernel
theorem dX8_readMove_108 : decode cX8_readMove 108 = .ok (.aload_n 1, 1) := by decide +kernel
theorem dX8_readMove_109 : decode cX8_readMove 109 = .ok (.iconst 1, 1) := by decide +kernel
theorem dX8_readMove_110 : decode cX8_readMove 110 = .ok (.invokevirtual 74, 3) := by decide +kernel
theorem dX8_readMove_113 : decode cX8_readMove 113 = .ok (.ifCond .ne 5, 3) := by decide +kernel
theorem dX8_readMove_116 : decode cX8_readMove 116 = .ok (.iconst 0, 1) := by decide +kernel
theorem dX8_readMove_117 : decode cX8_readMove 117 = .ok (.ireturn, 1) := by decide +kernel
theorem dX8_readMove_118 : decode cX8_readMove 118 = .ok (.aload_n 0, 1) := by decide +kernel
theorem dX8_readMove_119 : decode cX8_readMove 119 = .ok (.aload_n 0, 1) := by decide +kernel
theorem dX8_readMove_120 : decode cX8_readMove 120 = .ok (.ldc 78, 2) := by decide +kernel
theorem dX8_readMove_122 : decode cX8_readMove 122 = .ok (.invokevirtual 70, 3) := by decide +kernel
theorem dX8_readMove_125 : decode cX8_readMove 125 = .ok (.invokevirtual 61, 3) := by decide +kernel
theorem dX8_readMove_128 : decode cX8_readMove 128 = .ok (.ifCond .ne 5, 3) := by decide +kernel
theorem dX8_readMove_131 : decode cX8_readMove 131 = .ok (.iconst 0, 1) := by decide +kernel
theorem dX8_readMove_132 : decode cX8_readMove 132 = .ok (.ireturn, 1) := by decide +kernel
theorem dX8_readMove_133 : decode cX8_readMove 133 = .ok (.aload_n 0, 1) := by decide +kernel
theorem dX8_readMove_134 : decode cX8_readMove 134 = .ok (.aload_n 0, 1) := by decide +kernel
theorem dX8_readMove_135 : decode cX8_readMove 135 = .ok (.invokevirtual 54, 3) := by decide +kernel
theorem dX8_readMove_138 : decode cX8_readMove 138 = .ok (.putfield 34, 3) := by decide +kernel
theorem dX8_readMove_141 : decode cX8_readMove 141 = .ok (.aload_n 0, 1) := by decide +kernel
theorem dX8_readMove_142 : decode cX8_readMove 142 = .ok (.aload_n 1, 1) := by decide +kernel
theorem dX8_readMove_143 : decode cX8_readMove 143 = .ok (.aload_n 0, 1) := by decide +kernel
theorem dX8_readMove_144 : decode cX8_readMove 144 = .ok (.getfield 34, 3) := by decide +kernel
theorem dX8_readMove_147 : decode cX8_readMove 147 = .ok (.invokevirtual 57, 3) := by decide +kernel
theorem dX8_readMove_150 : decode cX8_readMove 150 = .ok (.invokevirtual 61, 3) := by decide +kernel
theorem dX8_readMove_153 : decode cX8_readMove 153 = .ok (.ifCond .ne 5, 3) := by decide +kernel
theorem dX8_readMove_156 : decode cX8_readMove 156 = .ok (.iconst 0, 1) := by decide +kernel
theorem dX8_readMove_157 : decode cX8_readMove 157 = .ok (.ireturn, 1) := by decide +kernel
theorem dX8_readMove_158 : decode cX8_readMove 158 = .ok (.aload_n 0, 1) := by decide +kernel
theorem dX8_readMove_159 : decode cX8_readMove 159 = .ok (.getfield 28, 3) := by decide +kernel
theorem dX8_readMove_162 : decode cX8_readMove 162 = .ok (.invokestatic 79, 3) := by decide +kernel
theorem dX8_readMove_165 : decode cX8_readMove 165 = .ok (.ifCond .eq 25, 3) := by decide +kernel
theorem dX8_readMove_168 : decode cX8_readMove 168 = .ok (.aload_n 0, 1) := by decide +kernel
theorem dX8_readMove_169 : decode cX8_readMove 169 = .ok (.aload_n 0, 1) := by decide +kernel
theorem dX8_readMove_170 : decode cX8_readMove 170 = .ok (.ldc 82, 2) := by decide +kernel
theorem dX8_readMove_172 : decode cX8_readMove 172 = .ok (.invokevirtual 70, 3) := by decide +kernel
theorem dX8_readMove_175 : decode cX8_readMove 175 = .ok (.invokevirtual 61, 3) := by decide +kernel
theorem dX8_readMove_178 : decode cX8_readMove 178 = .ok (.ifCond .eq 16, 3) := by decide +kernel
theorem dX8_readMove_181 : decode cX8_readMove 181 = .ok (.aload_n 0, 1) := by decide +kernel
theorem dX8_readMove_182 : decode cX8_readMove 182 = .ok (.aload_n 1, 1) := by decide +kernel
theorem dX8_readMove_183 : decode cX8_readMove 183 = .ok (.iconst 0, 1) := by decide +kernel
theorem dX8_readMove_184 : decode cX8_readMove 184 = .ok (.invokevirtual 74, 3) := by decide +kernel
theorem dX8_readMove_187 : decode cX8_readMove 187 = .ok (.ifCond .eq 7, 3) := by decide +kernel
theorem dX8_readMove_190 : decode cX8_readMove 190 = .ok (.iconst 1, 1) := by decide +kernel
theorem dX8_readMove_191 : decode cX8_readMove 191 = .ok (.goto 4, 3) := by decide +kernel
theorem dX8_readMove_194 : decode cX8_readMove 194 = .ok (.iconst 0, 1) := by decide +kernel
theorem dX8_readMove_195 : decode cX8_readMove 195 = .ok (.ireturn, 1) := by decide +kernel
theorem ggX8_readMark_X8_isWord : GoodIn wsX8_readMark wsX8_isWord := gdC (gd1 m14_10)
theorem gX8_readMark_X8_isWord : GoodIn wsX8_readMark (wsV RX8 70 RX8 yX8_isWord wsX8_isWord) := gdC (gd4 m14_7 m14_8 m14_9 m1_20 m14_10)
theorem ggX8_readMark_X8_pass : GoodIn wsX8_readMark wsX8_pass := gdC (gd1 m14_3)
theorem gX8_readMark_X8_pass : GoodIn wsX8_readMark (wsV RX8 61 RX8 yX8_pass wsX8_pass) := gdC (gd4 m14_0 m14_1 m14_2 m1_20 m14_3)
theorem ggX8_readMark_X8_digit : GoodIn wsX8_readMark wsX8_digit := gdC (gd1 m13_15)
theorem gX8_readMark_X8_digit : GoodIn wsX8_readMark (wsV RX8 54 RX8 yX8_digit wsX8_digit) := gdC (gd4 m13_12 m13_13 m13_14 m1_20 m13_15)
theorem ggX8_readMark_X5_isMark : GoodIn wsX8_readMark wsX5_isMark := gdC (gd1 m16_19)
theorem gX8_readMark_X5_isMark : GoodIn wsX8_readMark (wsV RX8 86 RX5 yX5_isMark wsX5_isMark) := gdC (gd4 m16_16 m16_17 m16_18 m1_15 m16_19)
theorem dX8_readMark_0 : decode cX8_readMark 0 = .ok (.iload_n 2, 1) := by decide +kernel
theorem dX8_readMark_1 : decode cX8_readMark 1 = .ok (.ifCond .eq 23, 3) := by decide +kernel
theorem dX8_readMark_4 : decode cX8_readMark 4 = .ok (.aload_n 0, 1) := by decide +kernel
theorem dX8_readMark_5 : decode cX8_readMark 5 = .ok (.ldc 84, 2) := by decide +kernel
theorem dX8_readMark_7 : decode cX8_readMark 7 = .ok (.invokevirtual 70, 3) := by decide +kernel
theorem dX8_readMark_10 : decode cX8_readMark 10 = .ok (.ifCond .eq 14, 3) := by decide +kernel
theorem dX8_readMark_13 : decode cX8_readMark 13 = .ok (.aload_n 0, 1) := by decide +kernel
theorem dX8_readMark_14 : decode cX8_readMark 14 = .ok (.iconst (-1), 1) := by decide +kernel
theorem dX8_readMark_15 : decode cX8_readMark 15 = .ok (.putfield 31, 3) := by decide +kernel
theorem dX8_readMark_18 : decode cX8_readMark 18 = .ok (.aload_n 0, 1) := by decide +kernel
theorem dX8_readMark_19 : decode cX8_readMark 19 = .ok (.iconst 1, 1) := by decide +kernel
theorem dX8_readMark_20 : decode cX8_readMark 20 = .ok (.invokevirtual 61, 3) := by decide +kernel
theorem dX8_readMark_23 : decode cX8_readMark 23 = .ok (.ireturn, 1) := by decide +kernel
theorem dX8_readMark_24 : decode cX8_readMark 24 = .ok (.aload_n 0, 1) := by decide +kernel
theorem dX8_readMark_25 : decode cX8_readMark 25 = .ok (.aload_n 0, 1) := by decide +kernel
theorem dX8_readMark_26 : decode cX8_readMark 26 = .ok (.invokevirtual 54, 3) := by decide +kernel
theorem dX8_readMark_29 : decode cX8_readMark 29 = .ok (.putfield 31, 3) := by decide +kernel
theorem dX8_readMark_32 : decode cX8_readMark 32 = .ok (.aload_n 0, 1) := by decide +kernel
theorem dX8_readMark_33 : decode cX8_readMark 33 = .ok (.aload_n 1, 1) := by decide +kernel
theorem dX8_readMark_34 : decode cX8_readMark 34 = .ok (.aload_n 0, 1) := by decide +kernel
theorem dX8_readMark_35 : decode cX8_readMark 35 = .ok (.getfield 31, 3) := by decide +kernel
theorem dX8_readMark_38 : decode cX8_readMark 38 = .ok (.invokevirtual 86, 3) := by decide +kernel
theorem dX8_readMark_41 : decode cX8_readMark 41 = .ok (.invokevirtual 61, 3) := by decide +kernel
theorem dX8_readMark_44 : decode cX8_readMark 44 = .ok (.ireturn, 1) := by decide +kernel
theorem ggX8_pass_X8_step : GoodIn wsX8_pass wsX8_step := gdC (gd1 m13_0)
theorem gX8_pass_X8_step : GoodIn wsX8_pass (wsV RX8 37 RX8 yX8_step wsX8_step) := gdC (gd4 m12_21 m12_22 m12_23 m1_20 m13_0)
theorem dX8_pass_0 : decode cX8_pass 0 = .ok (.iload_n 1, 1) := by decide +kernel
theorem dX8_pass_1 : decode cX8_pass 1 = .ok (.ifCond .eq 7, 3) := by decide +kernel
theorem dX8_pass_4 : decode cX8_pass 4 = .ok (.aload_n 0, 1) := by decide +kernel
theorem dX8_pass_5 : decode cX8_pass 5 = .ok (.invokevirtual 37, 3) := by decide +kernel
theorem dX8_pass_8 : decode cX8_pass 8 = .ok (.iload_n 1, 1) := by decide +kernel
theorem dX8_pass_9 : decode cX8_pass 9 = .ok (.ireturn, 1) := by decide +kernel
theorem ggX8_step_X8_byteAt : GoodIn wsX8_step wsX8_byteAt := gdC (gd1 m13_4)
theorem gX8_step_X8_byteAt : GoodIn wsX8_step (wsV RX8 89 RX8 yX8_byteAt wsX8_byteAt) := gdC (gd4 m13_1 m13_2 m13_3 m1_20 m13_4)
theorem ggX8_step_X8_kindOf : GoodIn wsX8_step wsX8_kindOf := gdC (gd1 m13_7)
theorem gX8_step_X8_kindOf : GoodIn wsX8_step (va_wsS RX8 93 yX8_kindOf wsX8_kindOf) := gdC (gd3 m13_5 m13_6 m1_20 m13_7)
theorem dX8_step_0 : decode cX8_step 0 = .ok (.aload_n 0, 1) := by decide +kernel
theorem dX8_step_1 : decode cX8_step 1 = .ok (.aload_n 0, 1) := by decide +kernel
theorem dX8_step_2 : decode cX8_step 2 = .ok (.getfield 22, 3) := by decide +kernel
theorem dX8_step_5 : decode cX8_step 5 = .ok (.putfield 19, 3) := by decide +kernel
theorem dX8_step_8 : decode cX8_step 8 = .ok (.aload_n 0, 1) := by decide +kernel
theorem dX8_step_9 : decode cX8_step 9 = .ok (.getfield 19, 3) := by decide +kernel
theorem dX8_step_12 : decode cX8_step 12 = .ok (.aload_n 0, 1) := by decide +kernel
theorem dX8_step_13 : decode cX8_step 13 = .ok (.getfield 15, 3) := by decide +kernel
theorem dX8_step_16 : decode cX8_step 16 = .ok (.if_icmp .ge 29, 3) := by decide +kernel
theorem dX8_step_19 : decode cX8_step 19 = .ok (.aload_n 0, 1) := by decide +kernel
theorem dX8_step_20 : decode cX8_step 20 = .ok (.aload_n 0, 1) := by decide +kernel
theorem dX8_step_21 : decode cX8_step 21 = .ok (.getfield 19, 3) := by decide +kernel
theorem dX8_step_24 : decode cX8_step 24 = .ok (.invokevirtual 89, 3) := by decide +kernel
theorem dX8_step_27 : decode cX8_step 27 = .ok (.bipush 32, 2) := by decide +kernel
theorem dX8_step_29 : decode cX8_step 29 = .ok (.if_icmp .ne 16, 3) := by decide +kernel
theorem dX8_step_32 : decode cX8_step 32 = .ok (.aload_n 0, 1) := by decide +kernel
theorem dX8_step_33 : decode cX8_step 33 = .ok (.dup, 1) := by decide +kernel
theorem dX8_step_34 : decode cX8_step 34 = .ok (.getfield 19, 3) := by decide +kernel
theorem dX8_step_37 : decode cX8_step 37 = .ok (.iconst 1, 1) := by decide +kernel
theorem dX8_step_38 : decode cX8_step 38 = .ok (.iadd, 1) := by decide +kernel
theorem dX8_step_39 : decode cX8_step 39 = .ok (.putfield 19, 3) := by decide +kernel
theorem dX8_step_42 : decode cX8_step 42 = .ok (.goto (-34), 3) := by decide +kernel
theorem dX8_step_45 : decode cX8_step 45 = .ok (.aload_n 0, 1) := by decide +kernel
theorem dX8_step_46 : decode cX8_step 46 = .ok (.aload_n 0, 1) := by decide +kernel
theorem dX8_step_47 : decode cX8_step 47 = .ok (.getfield 19, 3) := by decide +kernel
theorem dX8_step_50 : decode cX8_step 50 = .ok (.putfield 22, 3) := by decide +kernel
theorem dX8_step_53 : decode cX8_step 53 = .ok (.aload_n 0, 1) := by decide +kernel
theorem dX8_step_54 : decode cX8_step 54 = .ok (.getfield 19, 3) := by decide +kernel
theorem dX8_step_57 : decode cX8_step 57 = .ok (.aload_n 0, 1) := by decide +kernel
theorem dX8_step_58 : decode cX8_step 58 = .ok (.getfield 15, 3) := by decide +kernel
theorem dX8_step_61 : decode cX8_step 61 = .ok (.if_icmp .lt 4, 3) := by decide +kernel
theorem dX8_step_64 : decode cX8_step 64 = .ok (.return_, 1) := by decide +kernel
theorem dX8_step_65 : decode cX8_step 65 = .ok (.aload_n 0, 1) := by decide +kernel
theorem dX8_step_66 : decode cX8_step 66 = .ok (.dup, 1) := by decide +kernel
theorem dX8_step_67 : decode cX8_step 67 = .ok (.getfield 22, 3) := by decide +kernel
theorem dX8_step_70 : decode cX8_step 70 = .ok (.iconst 1, 1) := by decide +kernel
theorem dX8_step_71 : decode cX8_step 71 = .ok (.iadd, 1) := by decide +kernel
theorem dX8_step_72 : decode cX8_step 72 = .ok (.putfield 22, 3) := by decide +kernel
theorem dX8_step_75 : decode cX8_step 75 = .ok (.aload_n 0, 1) := by decide +kernel
theorem dX8_step_76 : decode cX8_step 76 = .ok (.aload_n 0, 1) := by decide +kernel
theorem dX8_step_77 : decode cX8_step 77 = .ok (.getfield 19, 3) := by decide +kernel
theorem dX8_step_80 : decode cX8_step 80 = .ok (.invokevirtual 89, 3) := by decide +kernel
theorem dX8_step_83 : decode cX8_step 83 = .ok (.invokestatic 93, 3) := by decide +kernel
theorem dX8_step_86 : decode cX8_step 86 = .ok (.istore_n 1, 1) := by decide +kernel
theorem dX8_step_87 : decode cX8_step 87 = .ok (.iload_n 1, 1) := by decide +kernel
theorem dX8_step_88 : decode cX8_step 88 = .ok (.ifCond .eq 42, 3) := by decide +kernel
theorem dX8_step_91 : decode cX8_step 91 = .ok (.aload_n 0, 1) := by decide +kernel
theorem dX8_step_92 : decode cX8_step 92 = .ok (.getfield 22, 3) := by decide +kernel
theorem dX8_step_95 : decode cX8_step 95 = .ok (.aload_n 0, 1) := by decide +kernel
theorem dX8_step_96 : decode cX8_step 96 = .ok (.getfield 15, 3) := by decide +kernel
theorem dX8_step_99 : decode cX8_step 99 = .ok (.if_icmp .ge 31, 3) := by decide +kernel
theorem dX8_step_102 : decode cX8_step 102 = .ok (.aload_n 0, 1) := by decide +kernel
theorem dX8_step_103 : decode cX8_step 103 = .ok (.aload_n 0, 1) := by decide +kernel
theorem dX8_step_104 : decode cX8_step 104 = .ok (.getfield 22, 3) := by decide +kernel
theorem dX8_step_107 : decode cX8_step 107 = .ok (.invokevirtual 89, 3) := by decide +kernel
theorem dX8_step_110 : decode cX8_step 110 = .ok (.invokestatic 93, 3) := by decide +kernel
theorem dX8_step_113 : decode cX8_step 113 = .ok (.iload_n 1, 1) := by decide +kernel
theorem dX8_step_114 : decode cX8_step 114 = .ok (.if_icmp .ne 16, 3) := by decide +kernel
theorem dX8_step_117 : decode cX8_step 117 = .ok (.aload_n 0, 1) := by decide +kernel
theorem dX8_step_118 : decode cX8_step 118 = .ok (.dup, 1) := by decide +kernel
theorem dX8_step_119 : decode cX8_step 119 = .ok (.getfield 22, 3) := by decide +kernel
theorem dX8_step_122 : decode cX8_step 122 = .ok (.iconst 1, 1) := by decide +kernel
theorem dX8_step_123 : decode cX8_step 123 = .ok (.iadd, 1) := by decide +kernel
theorem dX8_step_124 : decode cX8_step 124 = .ok (.putfield 22, 3) := by decide +kernel
theorem dX8_step_127 : decode cX8_step 127 = .ok (.goto (-40), 3) := by decide +kernel
theorem dX8_step_130 : decode cX8_step 130 = .ok (.return_, 1) := by decide +kernel
theorem ggX8_head_X8_byteAt : GoodIn wsX8_head wsX8_byteAt := gdC (gd1 m13_4)
theorem gX8_head_X8_byteAt : GoodIn wsX8_head (wsV RX8 89 RX8 yX8_byteAt wsX8_byteAt) := gdC (gd4 m13_1 m13_2 m13_3 m1_20 m13_4)
theorem dX8_head_0 : decode cX8_head 0 = .ok (.aload_n 0, 1) := by decide +kernel
theorem dX8_head_1 : decode cX8_head 1 = .ok (.getfield 19, 3) := by decide +kernel
theorem dX8_head_4 : decode cX8_head 4 = .ok (.aload_n 0, 1) := by decide +kernel
theorem dX8_head_5 : decode cX8_head 5 = .ok (.getfield 15, 3) := by decide +kernel
theorem dX8_head_8 : decode cX8_head 8 = .ok (.if_icmp .ge 14, 3) := by decide +kernel
theorem dX8_head_11 : decode cX8_head 11 = .ok (.aload_n 0, 1) := by decide +kernel
theorem dX8_head_12 : decode cX8_head 12 = .ok (.aload_n 0, 1) := by decide +kernel
theorem dX8_head_13 : decode cX8_head 13 = .ok (.getfield 19, 3) := by decide +kernel
theorem dX8_head_16 : decode cX8_head 16 = .ok (.invokevirtual 89, 3) := by decide +kernel
theorem dX8_head_19 : decode cX8_head 19 = .ok (.goto 4, 3) := by decide +kernel
theorem dX8_head_22 : decode cX8_head 22 = .ok (.iconst (-1), 1) := by decide +kernel
theorem dX8_head_23 : decode cX8_head 23 = .ok (.ireturn, 1) := by decide +kernel
theorem ggX8_digit_X8_head : GoodIn wsX8_digit wsX8_head := gdC (gd1 m13_19)
theorem gX8_digit_X8_head : GoodIn wsX8_digit (wsV RX8 50 RX8 yX8_head wsX8_head) := gdC (gd4 m13_16 m13_17 m13_18 m1_20 m13_19)
theorem ggX8_digit_X8_kindOf : GoodIn wsX8_digit wsX8_kindOf := gdC (gd1 m13_7)
theorem gX8_digit_X8_kindOf : GoodIn wsX8_digit (va_wsS RX8 93 yX8_kindOf wsX8_kindOf) := gdC (gd3 m13_5 m13_6 m1_20 m13_7)
theorem dX8_digit_0 : decode cX8_digit 0 = .ok (.aload_n 0, 1) := by decide +kernel
theorem dX8_digit_1 : decode cX8_digit 1 = .ok (.getfield 22, 3) := by decide +kernel
theorem dX8_digit_4 : decode cX8_digit 4 = .ok (.aload_n 0, 1) := by decide +kernel
theorem dX8_digit_5 : decode cX8_digit 5 = .ok (.getfield 19, 3) := by decide +kernel
theorem dX8_digit_8 : decode cX8_digit 8 = .ok (.isub, 1) := by decide +kernel
theorem dX8_digit_9 : decode cX8_digit 9 = .ok (.iconst 1, 1) := by decide +kernel
theorem dX8_digit_10 : decode cX8_digit 10 = .ok (.if_icmp .ne 24, 3) := by decide +kernel
theorem dX8_digit_13 : decode cX8_digit 13 = .ok (.aload_n 0, 1) := by decide +kernel
theorem dX8_digit_14 : decode cX8_digit 14 = .ok (.invokevirtual 50, 3) := by decide +kernel
theorem dX8_digit_17 : decode cX8_digit 17 = .ok (.invokestatic 93, 3) := by decide +kernel
theorem dX8_digit_20 : decode cX8_digit 20 = .ok (.iconst 2, 1) := by decide +kernel
theorem dX8_digit_21 : decode cX8_digit 21 = .ok (.if_icmp .ne 13, 3) := by decide +kernel
theorem dX8_digit_24 : decode cX8_digit 24 = .ok (.aload_n 0, 1) := by decide +kernel
theorem dX8_digit_25 : decode cX8_digit 25 = .ok (.invokevirtual 50, 3) := by decide +kernel
theorem dX8_digit_28 : decode cX8_digit 28 = .ok (.bipush 48, 2) := by decide +kernel
theorem dX8_digit_30 : decode cX8_digit 30 = .ok (.isub, 1) := by decide +kernel
theorem dX8_digit_31 : decode cX8_digit 31 = .ok (.goto 4, 3) := by decide +kernel
theorem dX8_digit_34 : decode cX8_digit 34 = .ok (.iconst (-1), 1) := by decide +kernel
theorem dX8_digit_35 : decode cX8_digit 35 = .ok (.ireturn, 1) := by decide +kernel
theorem ggX8_isWord_J0_length_8abf5 : GoodIn wsX8_isWord wsJ0_length_8abf5 := gdC (gd1 m14_15)
theorem gX8_isWord_J0_length_8abf5 : GoodIn wsX8_isWord (wsV RX8 96 RJ0 yJ0_length_8abf5 wsJ0_length_8abf5) := gdC (gd4 m14_11 m14_12 m14_13 m14_14 m14_15)
theorem ggX8_isWord_X8_byteAt : GoodIn wsX8_isWord wsX8_byteAt := gdC (gd1 m13_4)
theorem gX8_isWord_X8_byteAt : GoodIn wsX8_isWord (wsV RX8 89 RX8 yX8_byteAt wsX8_byteAt) := gdC (gd4 m13_1 m13_2 m13_3 m1_20 m13_4)
theorem ggX8_isWord_J0_charAt_5068e : GoodIn wsX8_isWord wsJ0_charAt_5068e := gdC (gd1 m15_2)
theorem gX8_isWord_J0_charAt_5068e : GoodIn wsX8_isWord (wsV RX8 101 RJ0 yJ0_charAt_5068e wsJ0_charAt_5068e) := gdC (gd4 m14_23 m15_0 m15_1 m14_14 m15_2)
theorem dX8_isWord_0 : decode cX8_isWord 0 = .ok (.aload_n 0, 1) := by decide +kernel
theorem dX8_isWord_1 : decode cX8_isWord 1 = .ok (.getfield 22, 3) := by decide +kernel
theorem dX8_isWord_4 : decode cX8_isWord 4 = .ok (.aload_n 0, 1) := by decide +kernel
theorem dX8_isWord_5 : decode cX8_isWord 5 = .ok (.getfield 19, 3) := by decide +kernel
theorem dX8_isWord_8 : decode cX8_isWord 8 = .ok (.isub, 1) := by decide +kernel
theorem dX8_isWord_9 : decode cX8_isWord 9 = .ok (.aload_n 1, 1) := by decide +kernel
theorem dX8_isWord_10 : decode cX8_isWord 10 = .ok (.invokevirtual 96, 3) := by decide +kernel
theorem dX8_isWord_13 : decode cX8_isWord 13 = .ok (.if_icmp .ne 7, 3) := by decide +kernel
theorem dX8_isWord_16 : decode cX8_isWord 16 = .ok (.iconst 1, 1) := by decide +kernel
theorem dX8_isWord_17 : decode cX8_isWord 17 = .ok (.goto 4, 3) := by decide +kernel
theorem dX8_isWord_20 : decode cX8_isWord 20 = .ok (.iconst 0, 1) := by decide +kernel
theorem dX8_isWord_21 : decode cX8_isWord 21 = .ok (.istore_n 2, 1) := by decide +kernel
theorem dX8_isWord_22 : decode cX8_isWord 22 = .ok (.iconst 0, 1) := by decide +kernel
theorem dX8_isWord_23 : decode cX8_isWord 23 = .ok (.istore_n 3, 1) := by decide +kernel
theorem dX8_isWord_24 : decode cX8_isWord 24 = .ok (.iload_n 2, 1) := by decide +kernel
theorem dX8_isWord_25 : decode cX8_isWord 25 = .ok (.ifCond .eq 41, 3) := by decide +kernel
theorem dX8_isWord_28 : decode cX8_isWord 28 = .ok (.iload_n 3, 1) := by decide +kernel
theorem dX8_isWord_29 : decode cX8_isWord 29 = .ok (.aload_n 1, 1) := by decide +kernel
theorem dX8_isWord_30 : decode cX8_isWord 30 = .ok (.invokevirtual 96, 3) := by decide +kernel
theorem dX8_isWord_33 : decode cX8_isWord 33 = .ok (.if_icmp .ge 33, 3) := by decide +kernel
theorem dX8_isWord_36 : decode cX8_isWord 36 = .ok (.aload_n 0, 1) := by decide +kernel
theorem dX8_isWord_37 : decode cX8_isWord 37 = .ok (.aload_n 0, 1) := by decide +kernel
theorem dX8_isWord_38 : decode cX8_isWord 38 = .ok (.getfield 19, 3) := by decide +kernel
theorem dX8_isWord_41 : decode cX8_isWord 41 = .ok (.iload_n 3, 1) := by decide +kernel
theorem dX8_isWord_42 : decode cX8_isWord 42 = .ok (.iadd, 1) := by decide +kernel
theorem dX8_isWord_43 : decode cX8_isWord 43 = .ok (.invokevirtual 89, 3) := by decide +kernel
theorem dX8_isWord_46 : decode cX8_isWord 46 = .ok (.aload_n 1, 1) := by decide +kernel
theorem dX8_isWord_47 : decode cX8_isWord 47 = .ok (.iload_n 3, 1) := by decide +kernel
theorem dX8_isWord_48 : decode cX8_isWord 48 = .ok (.invokevirtual 101, 3) := by decide +kernel
theorem dX8_isWord_51 : decode cX8_isWord 51 = .ok (.if_icmp .ne 7, 3) := by decide +kernel
theorem dX8_isWord_54 : decode cX8_isWord 54 = .ok (.iconst 1, 1) := by decide +kernel
theorem dX8_isWord_55 : decode cX8_isWord 55 = .ok (.goto 4, 3) := by decide +kernel
theorem dX8_isWord_58 : decode cX8_isWord 58 = .ok (.iconst 0, 1) := by decide +kernel
theorem dX8_isWord_59 : decode cX8_isWord 59 = .ok (.istore_n 2, 1) := by decide +kernel
theorem dX8_isWord_60 : decode cX8_isWord 60 = .ok (.iinc 3 1, 3) := by decide +kernel
theorem dX8_isWord_63 : decode cX8_isWord 63 = .ok (.goto (-39), 3) := by decide +kernel
theorem dX8_isWord_66 : decode cX8_isWord 66 = .ok (.iload_n 2, 1) := by decide +kernel
theorem dX8_isWord_67 : decode cX8_isWord 67 = .ok (.ireturn, 1) := by decide +kernel
theorem dX8_kindOf_0 : decode cX8_kindOf 0 = .ok (.iload_n 0, 1) := by decide +kernel
theorem dX8_kindOf_1 : decode cX8_kindOf 1 = .ok (.bipush 97, 2) := by decide +kernel
theorem dX8_kindOf_3 : decode cX8_kindOf 3 = .ok (.if_icmp .lt 11, 3) := by decide +kernel
theorem dX8_kindOf_6 : decode cX8_kindOf 6 = .ok (.iload_n 0, 1) := by decide +kernel
theorem dX8_kindOf_7 : decode cX8_kindOf 7 = .ok (.bipush 122, 2) := by decide +kernel
theorem dX8_kindOf_9 : decode cX8_kindOf 9 = .ok (.if_icmp .gt 5, 3) := by decide +kernel
theorem dX8_kindOf_12 : decode cX8_kindOf 12 = .ok (.iconst 1, 1) := by decide +kernel
theorem dX8_kindOf_13 : decode cX8_kindOf 13 = .ok (.ireturn, 1) := by decide +kernel
theorem dX8_kindOf_14 : decode cX8_kindOf 14 = .ok (.iload_n 0, 1) := by decide +kernel
theorem dX8_kindOf_15 : decode cX8_kindOf 15 = .ok (.bipush 48, 2) := by decide +kernel
theorem dX8_kindOf_17 : decode cX8_kindOf 17 = .ok (.if_icmp .lt 13, 3) := by decide +kernel
theorem dX8_kindOf_20 : decode cX8_kindOf 20 = .ok (.iload_n 0, 1) := by decide +kernel
theorem dX8_kindOf_21 : decode cX8_kindOf 21 = .ok (.bipush 57, 2) := by decide +kernel
theorem dX8_kindOf_23 : decode cX8_kindOf 23 = .ok (.if_icmp .gt 7, 3) := by decide +kernel
theorem dX8_kindOf_26 : decode cX8_kindOf 26 = .ok (.iconst 2, 1) := by decide +kernel
theorem dX8_kindOf_27 : decode cX8_kindOf 27 = .ok (.goto 4, 3) := by decide +kernel
theorem dX8_kindOf_30 : decode cX8_kindOf 30 = .ok (.iconst 0, 1) := by decide +kernel
theorem dX8_kindOf_31 : decode cX8_kindOf 31 = .ok (.ireturn, 1) := by decide +kernel
theorem dX8_byteAt_0 : decode cX8_byteAt 0 = .ok (.iload_n 1, 1) := by decide +kernel
theorem dX8_byteAt_1 : decode cX8_byteAt 1 = .ok (.ifCond .lt 20, 3) := by decide +kernel
theorem dX8_byteAt_4 : decode cX8_byteAt 4 = .ok (.iload_n 1, 1) := by decide +kernel
theorem dX8_byteAt_5 : decode cX8_byteAt 5 = .ok (.aload_n 0, 1) := by decide +kernel
theorem dX8_byteAt_6 : decode cX8_byteAt 6 = .ok (.getfield 15, 3) := by decide +kernel
theorem dX8_byteAt_9 : decode cX8_byteAt 9 = .ok (.if_icmp .ge 12, 3) := by decide +kernel
theorem dX8_byteAt_12 : decode cX8_byteAt 12 = .ok (.aload_n 0, 1) := by decide +kernel
theorem dX8_byteAt_13 : decode cX8_byteAt 13 = .ok (.getfield 9, 3) := by decide +kernel
theorem dX8_byteAt_16 : decode cX8_byteAt 16 = .ok (.iload_n 1, 1) := by decide +kernel
theorem dX8_byteAt_17 : decode cX8_byteAt 17 = .ok (.iaload, 1) := by decide +kernel
theorem dX8_byteAt_18 : decode cX8_byteAt 18 = .ok (.goto 4, 3) := by decide +kernel
theorem dX8_byteAt_21 : decode cX8_byteAt 21 = .ok (.iconst (-1), 1) := by decide +kernel
theorem dX8_byteAt_22 : decode cX8_byteAt 22 = .ok (.ireturn, 1) := by decide +kernel
def wX8_size (F_size : Int32) (K : Int32 → Prop) : Prop :=
  K F_size
abbrev rmX8_size : Room := { frames := 0, cells := 0, slots := 0, locals := 0 }
theorem nd_X8_size : yX8_size.cls = RX8 ∧ yX8_size.cls ≠ "java/lang/invoke/MethodHandle" ∧ yX8_size.cls ≠ "java/lang/invoke/VarHandle" ∧ (parseMethodDescriptor yX8_size.desc).map (fun d => d.parameters.length) = some 0 := by decide +kernel
theorem hkX8_size_X8 : ∀ w ∈ u_ws RX8 TX8 8, w ∈ wsX8_size := fun w h => List.mem_cons_of_mem _ (inlX8 w h)
theorem hfX8_size_15 : (Cond.fieldLink RX8 15 "NestReaders$Text" "size" "I") ∈ wsX8_size := List.mem_cons_of_mem _ m4_0
set_option maxHeartbeats 4000000 in
set_option maxRecDepth 100000 in
theorem c_X8_size (l : Launch) (G : va_G) (cI cJ cZ : ClassId) (q_t q_t_bytes : Nat) (F_size : Int32) (F_start : Int32) (F_behind : Int32) (F_from : Int32) (F_letter : Int32) (F_mark : Int32) (F_to : Int32) {K : Int32 → Prop} (hw : wX8_size F_size K) : Met l yX8_size wsX8_size rmX8_size (ms_P G (ms_T cI cJ cZ) [(q_t, .inr (8, [.ref q_t_bytes, .int F_size, .int F_start, .int F_behind, .int F_from, .int F_letter, .int F_mark, .int F_to]))] [.ref q_t]) (ms_Qi K) 0 0 ms_N := by
  refine ms_si (cc := cX8_size) (maxL := 1) (ty := .int) (by decide) rfl (Nat.le_of_ble_eq_true rfl) ?_
  intro p e s m args below meth c Q hx hb hml hown hts hK hP hD hRet ls hl
  have hl : lv_has ls 1 [(0, .ref q_t)] := hl
  have hown : s.vm.findClass RX8 = some m.cls := hown
  refine lv_aload_n hx hb dX8_size_0 rfl (lv_at hl 0 rfl) ?_
  refine va_get (D := G) (ci := 8) (v := .int F_size) (C := RX8) (T := TX8) (N := 8) hx hb hts hkX8_size_X8 hown hK hP 0 rfl rfl 1 (by decide) (hts (.fieldLink RX8 15 "NestReaders$Text" "size" "I") hfX8_size_15) (fun _ h9 => h9) rfl dX8_size_1 ?_
  exact hRet F_size _ _ hw (vp_nar_int _) dX8_size_4
def wX8_empty (F_size : Int32) (K : Int32 → Prop) : Prop :=
  K (0 : Int32)
abbrev rmX8_empty : Room := { frames := 0, cells := 0, slots := 0, locals := 0 }
theorem nd_X8_empty : yX8_empty.cls = RX8 ∧ yX8_empty.cls ≠ "java/lang/invoke/MethodHandle" ∧ yX8_empty.cls ≠ "java/lang/invoke/VarHandle" ∧ (parseMethodDescriptor yX8_empty.desc).map (fun d => d.parameters.length) = some 0 := by decide +kernel
theorem hkX8_empty_X8 : ∀ w ∈ u_ws RX8 TX8 8, w ∈ wsX8_empty := fun w h => List.mem_cons_of_mem _ (inlX8 w h)
theorem hfX8_empty_15 : (Cond.fieldLink RX8 15 "NestReaders$Text" "size" "I") ∈ wsX8_empty := List.mem_cons_of_mem _ m4_0
set_option maxHeartbeats 4000000 in
set_option maxRecDepth 100000 in
theorem c_X8_empty (l : Launch) (G : va_G) (cI cJ cZ : ClassId) (q_t q_t_bytes : Nat) (sz : Nat) (F_size : Int32) (F_start : Int32) (F_behind : Int32) (F_from : Int32) (F_letter : Int32) (F_mark : Int32) (F_to : Int32) {K : Int32 → Prop} (hw : wX8_empty F_size K) : Met l yX8_empty wsX8_empty rmX8_empty (ms_Pz G (ms_T cI cJ cZ) [(q_t, .inr (8, [.ref q_t_bytes, .int F_size, .int F_start, .int F_behind, .int F_from, .int F_letter, .int F_mark, .int F_to]))] sz [.ref q_t]) (ms_Wv G (ms_T cI cJ cZ) (fun (u : Int32) => K u) (fun u : Int32 => [(q_t, .inr (8, [.ref q_t_bytes, .int u, .int F_start, .int F_behind, .int F_from, .int F_letter, .int F_mark, .int F_to]))]) (va_A [(q_t, .inr (8, [.ref q_t_bytes, .int F_size, .int F_start, .int F_behind, .int F_from, .int F_letter, .int F_mark, .int F_to]))] sz)) 0 0 (va_A [(q_t, .inr (8, [.ref q_t_bytes, .int F_size, .int F_start, .int F_behind, .int F_from, .int F_letter, .int F_mark, .int F_to]))] sz) := by
  refine ms_tv (cc := cX8_empty) (maxL := 1) (by decide) rfl (Nat.le_of_ble_eq_true rfl) ?_
  intro p e s m args below meth c Q A hx hb hml hown hts hK hP hD hS hA hRet ls hl
  have hl : lv_has ls 1 [(0, .ref q_t)] := hl
  have hown : s.vm.findClass RX8 = some m.cls := hown
  refine lv_aload_n hx hb dX8_empty_0 rfl (lv_at hl 0 rfl) ?_
  refine lv_iconst (v := 0) hx hb dX8_empty_1 (by decide) ?_
  refine va_put (D := G) (ci := 8) (v := .int (0 : Int32)) (ty := .int) (C := RX8) (T := TX8) (N := 8) hx hb hts hkX8_empty_X8 tyX8 tyX8_ok nmX8 hown hK hP hD hS 0 rfl rfl 1 (by decide) (hts (.fieldLink RX8 15 "NestReaders$Text" "size" "I") hfX8_empty_15) (fun _ h9 => h9) rfl (by decide +kernel) rfl rfl (Nat.le_of_ble_eq_true rfl) dX8_empty_2 (fun H locs hP hD hS => ?_)
  have hP : va_P G vwCl [(q_t, .inr (8, [.ref q_t_bytes, .int (0 : Int32), .int F_start, .int F_behind, .int F_from, .int F_letter, .int F_mark, .int F_to]))] H := hP
  have hD : va_D A [(q_t, .inr (8, [.ref q_t_bytes, .int (0 : Int32), .int F_start, .int F_behind, .int F_from, .int F_letter, .int F_mark, .int F_to]))] := hD
  exact hRet (0 : Int32) H locs _ _ hw hP hD hS dX8_empty_5
def wX8_append (p0 : Int32) (F_size : Int32) (A_bytes : Nat → Int32) (K : Int32 → (Nat → Int32) → Prop) : Prop :=
  (((160 : Int32) ≤ F_size → K F_size A_bytes) ∧ (¬ (160 : Int32) ≤ F_size → (vp_in F_size 160 ∧ (∀ g2 : Nat → Int32, g2 = upd A_bytes F_size.toNatClampNeg p0 → (∀ x3 : Int32, x3 = (F_size + (1 : Int32)) → K x3 g2)))))
abbrev rmX8_append : Room := { frames := 0, cells := 0, slots := 0, locals := 0 }
theorem nd_X8_append : yX8_append.cls = RX8 ∧ yX8_append.cls ≠ "java/lang/invoke/MethodHandle" ∧ yX8_append.cls ≠ "java/lang/invoke/VarHandle" ∧ (parseMethodDescriptor yX8_append.desc).map (fun d => d.parameters.length) = some 1 := by decide +kernel
theorem hkX8_append_X8 : ∀ w ∈ u_ws RX8 TX8 8, w ∈ wsX8_append := fun w h => List.mem_cons_of_mem _ (inlX8 w h)
theorem hfX8_append_15 : (Cond.fieldLink RX8 15 "NestReaders$Text" "size" "I") ∈ wsX8_append := List.mem_cons_of_mem _ m4_0
theorem hfX8_append_9 : (Cond.fieldLink RX8 9 "NestReaders$Text" "bytes" "[I") ∈ wsX8_append := List.mem_cons_of_mem _ m3_23
set_option maxHeartbeats 4000000 in
set_option maxRecDepth 100000 in
theorem c_X8_append (l : Launch) (G : va_G) (cI cJ cZ : ClassId) (q_t q_t_bytes : Nat) (sz : Nat) (F_size : Int32) (F_start : Int32) (F_behind : Int32) (F_from : Int32) (F_letter : Int32) (F_mark : Int32) (F_to : Int32) (A_bytes : Nat → Int32) (p0 : Int32) {K : Int32 → (Nat → Int32) → Prop} (hw : wX8_append p0 F_size A_bytes K) : Met l yX8_append wsX8_append rmX8_append (ms_Pz G (ms_T cI cJ cZ) [(q_t, .inr (8, [.ref q_t_bytes, .int F_size, .int F_start, .int F_behind, .int F_from, .int F_letter, .int F_mark, .int F_to])), (q_t_bytes, .inl (cI, 160, .inl A_bytes))] sz [.ref q_t, .int p0]) (ms_Wv G (ms_T cI cJ cZ) (fun (u : Int32 × (Nat → Int32)) => K u.1 u.2) (fun u : Int32 × (Nat → Int32) => [(q_t, .inr (8, [.ref q_t_bytes, .int u.1, .int F_start, .int F_behind, .int F_from, .int F_letter, .int F_mark, .int F_to])), (q_t_bytes, .inl (cI, 160, .inl u.2))]) (va_A [(q_t, .inr (8, [.ref q_t_bytes, .int F_size, .int F_start, .int F_behind, .int F_from, .int F_letter, .int F_mark, .int F_to])), (q_t_bytes, .inl (cI, 160, .inl A_bytes))] sz)) 0 0 (va_A [(q_t, .inr (8, [.ref q_t_bytes, .int F_size, .int F_start, .int F_behind, .int F_from, .int F_letter, .int F_mark, .int F_to])), (q_t_bytes, .inl (cI, 160, .inl A_bytes))] sz) := by
  refine ms_tv (cc := cX8_append) (maxL := 2) (by decide) rfl (Nat.le_of_ble_eq_true rfl) ?_
  intro p e s m args below meth c Q A hx hb hml hown hts hK hP hD hS hA hRet ls hl
  have hl : lv_has ls 2 [(0, .ref q_t), (1, .int p0)] := hl
  have hown : s.vm.findClass RX8 = some m.cls := hown
  refine lv_aload_n hx hb dX8_append_0 rfl (lv_at hl 0 rfl) ?_
  refine va_get (D := G) (ci := 8) (v := .int F_size) (C := RX8) (T := TX8) (N := 8) hx hb hts hkX8_append_X8 hown hK hP 0 rfl rfl 1 (by decide) (hts (.fieldLink RX8 15 "NestReaders$Text" "size" "I") hfX8_append_15) (fun _ h9 => h9) rfl dX8_append_1 ?_
  refine lv_aload_n hx hb dX8_append_4 rfl (lv_at hl 0 rfl) ?_
  refine va_get (D := G) (ci := 8) (v := .ref q_t_bytes) (C := RX8) (T := TX8) (N := 8) hx hb hts hkX8_append_X8 hown hK hP 0 rfl rfl 0 (by decide) (hts (.fieldLink RX8 9 "NestReaders$Text" "bytes" "[I") hfX8_append_9) (fun _ h9 => h9) rfl dX8_append_5 ?_
  refine va_alen (D := G) (v := (160 : Int32)) hx hb hK hP 1 0 rfl rfl rfl dX8_append_8 ?_
  refine lv_icmp_ge (tgt := 32) hx hb dX8_append_9 (by decide) (fun c1 => ?_) (fun c1 => ?_)
  · have hw := hw.1 c1
    exact hRet ⟨F_size, A_bytes⟩ s.heap [] _ _ hw hP hD hS dX8_append_32
  · have hw := hw.2 c1
    refine lv_aload_n hx hb dX8_append_12 rfl (lv_at hl 0 rfl) ?_
    refine va_get (D := G) (ci := 8) (v := .ref q_t_bytes) (C := RX8) (T := TX8) (N := 8) hx hb hts hkX8_append_X8 hown hK hP 0 rfl rfl 0 (by decide) (hts (.fieldLink RX8 9 "NestReaders$Text" "bytes" "[I") hfX8_append_9) (fun _ h9 => h9) rfl dX8_append_13 ?_
    refine lv_aload_n hx hb dX8_append_16 rfl (lv_at hl 0 rfl) ?_
    refine va_get (D := G) (ci := 8) (v := .int F_size) (C := RX8) (T := TX8) (N := 8) hx hb hts hkX8_append_X8 hown hK hP 0 rfl rfl 1 (by decide) (hts (.fieldLink RX8 15 "NestReaders$Text" "size" "I") hfX8_append_15) (fun _ h9 => h9) rfl dX8_append_17 ?_
    refine lv_iload_n hx hb dX8_append_20 rfl (lv_at hl 1 rfl) ?_
    refine ms_iast hx hb hK hP hD hS 1 0 rfl rfl hw.1 dX8_append_21 (fun g2 H locs eg2 hP hD hS => ?_)
    have hw := hw.2 g2 eg2
    have hP : va_P G vwCl [(q_t, .inr (8, [.ref q_t_bytes, .int F_size, .int F_start, .int F_behind, .int F_from, .int F_letter, .int F_mark, .int F_to])), (q_t_bytes, .inl (cI, 160, .inl g2))] H := hP
    have hD : va_D A [(q_t, .inr (8, [.ref q_t_bytes, .int F_size, .int F_start, .int F_behind, .int F_from, .int F_letter, .int F_mark, .int F_to])), (q_t_bytes, .inl (cI, 160, .inl g2))] := hD
    refine lv_aload_n hx hb dX8_append_22 rfl (lv_at hl 0 rfl) ?_
    refine lv_dup hx hb dX8_append_23 rfl ?_
    refine va_get (D := G) (ci := 8) (v := .int F_size) (C := RX8) (T := TX8) (N := 8) hx hb hts hkX8_append_X8 hown hK hP 0 rfl rfl 1 (by decide) (hts (.fieldLink RX8 15 "NestReaders$Text" "size" "I") hfX8_append_15) (fun _ h9 => h9) rfl dX8_append_24 ?_
    refine lv_iconst (v := 1) hx hb dX8_append_27 (by decide) ?_
    refine lv_iadd hx hb dX8_append_28 ?_
    refine lv_topi (fun x3 ex3 => ?_)
    have hw := hw x3 ex3
    refine va_put (D := G) (ci := 8) (v := .int x3) (ty := .int) (C := RX8) (T := TX8) (N := 8) hx hb hts hkX8_append_X8 tyX8 tyX8_ok nmX8 hown hK hP hD hS 0 rfl rfl 1 (by decide) (hts (.fieldLink RX8 15 "NestReaders$Text" "size" "I") hfX8_append_15) (fun _ h9 => h9) rfl (by decide +kernel) rfl rfl (Nat.le_of_ble_eq_true rfl) dX8_append_29 (fun H locs hP hD hS => ?_)
    have hP : va_P G vwCl [(q_t, .inr (8, [.ref q_t_bytes, .int x3, .int F_start, .int F_behind, .int F_from, .int F_letter, .int F_mark, .int F_to])), (q_t_bytes, .inl (cI, 160, .inl g2))] H := hP
    have hD : va_D A [(q_t, .inr (8, [.ref q_t_bytes, .int x3, .int F_start, .int F_behind, .int F_from, .int F_letter, .int F_mark, .int F_to])), (q_t_bytes, .inl (cI, 160, .inl g2))] := hD
    exact hRet ⟨x3, g2⟩ H locs _ _ hw hP hD hS dX8_append_32
def wX8_kindOf (p0 : Int32) (K : Int32 → Prop) : Prop :=
  ((p0 < (97 : Int32) → ((p0 < (48 : Int32) → K (0 : Int32)) ∧ (¬ p0 < (48 : Int32) → (((57 : Int32) < p0 → K (0 : Int32)) ∧ (¬ (57 : Int32) < p0 → K (2 : Int32)))))) ∧ (¬ p0 < (97 : Int32) → (((122 : Int32) < p0 → ((p0 < (48 : Int32) → K (0 : Int32)) ∧ (¬ p0 < (48 : Int32) → (((57 : Int32) < p0 → K (0 : Int32)) ∧ (¬ (57 : Int32) < p0 → K (2 : Int32)))))) ∧ (¬ (122 : Int32) < p0 → K (1 : Int32)))))
abbrev rmX8_kindOf : Room := { frames := 0, cells := 0, slots := 0, locals := 0 }
theorem nd_X8_kindOf : yX8_kindOf.cls ≠ "java/lang/invoke/MethodHandle" ∧ yX8_kindOf.cls ≠ "java/lang/invoke/VarHandle" ∧ (parseMethodDescriptor yX8_kindOf.desc).map (fun d => d.parameters.length) = some 1 := by decide +kernel
set_option maxHeartbeats 4000000 in
set_option maxRecDepth 100000 in
theorem c_X8_kindOf (l : Launch) (G : va_G) (cI cJ cZ : ClassId) (p0 : Int32) {K : Int32 → Prop} (hw : wX8_kindOf p0 K) : Met l yX8_kindOf wsX8_kindOf rmX8_kindOf (ms_P G (ms_T cI cJ cZ) [] [.int p0]) (ms_Qi K) 0 0 ms_N := by
  refine ms_si (cc := cX8_kindOf) (maxL := 1) (ty := .int) (by decide) rfl (Nat.le_of_ble_eq_true rfl) ?_
  intro p e s m args below meth c Q hx hb hml hown hts hK hP hD hRet ls hl
  have hl : lv_has ls 1 [(0, .int p0)] := hl
  have hown : s.vm.findClass RX8 = some m.cls := hown
  refine lv_iload_n hx hb dX8_kindOf_0 rfl (lv_at hl 0 rfl) ?_
  refine lv_bipush (v := (97)) hx hb dX8_kindOf_1 (by decide) ?_
  refine lv_icmp_lt (tgt := 14) hx hb dX8_kindOf_3 (by decide) (fun c1 => ?_) (fun c1 => ?_)
  · have hw := hw.1 c1
    refine lv_iload_n hx hb dX8_kindOf_14 rfl (lv_at hl 0 rfl) ?_
    refine lv_bipush (v := (48)) hx hb dX8_kindOf_15 (by decide) ?_
    refine lv_icmp_lt (tgt := 30) hx hb dX8_kindOf_17 (by decide) (fun c2 => ?_) (fun c2 => ?_)
    · have hw := hw.1 c2
      refine lv_iconst (v := 0) hx hb dX8_kindOf_30 (by decide) ?_
      exact hRet (0 : Int32) _ _ hw (vp_nar_int _) dX8_kindOf_31
    · have hw := hw.2 c2
      refine lv_iload_n hx hb dX8_kindOf_20 rfl (lv_at hl 0 rfl) ?_
      refine lv_bipush (v := (57)) hx hb dX8_kindOf_21 (by decide) ?_
      refine lv_icmp_gt (tgt := 30) hx hb dX8_kindOf_23 (by decide) (fun c3 => ?_) (fun c3 => ?_)
      · have hw := hw.1 c3
        refine lv_iconst (v := 0) hx hb dX8_kindOf_30 (by decide) ?_
        exact hRet (0 : Int32) _ _ hw (vp_nar_int _) dX8_kindOf_31
      · have hw := hw.2 c3
        refine lv_iconst (v := 2) hx hb dX8_kindOf_26 (by decide) ?_
        refine lv_goto (tgt := 31) hx hb dX8_kindOf_27 (by decide) ?_
        exact hRet (2 : Int32) _ _ hw (vp_nar_int _) dX8_kindOf_31
  · have hw := hw.2 c1
    refine lv_iload_n hx hb dX8_kindOf_6 rfl (lv_at hl 0 rfl) ?_
    refine lv_bipush (v := (122)) hx hb dX8_kindOf_7 (by decide) ?_
    refine lv_icmp_gt (tgt := 14) hx hb dX8_kindOf_9 (by decide) (fun c4 => ?_) (fun c4 => ?_)
    · have hw := hw.1 c4
      refine lv_iload_n hx hb dX8_kindOf_14 rfl (lv_at hl 0 rfl) ?_
      refine lv_bipush (v := (48)) hx hb dX8_kindOf_15 (by decide) ?_
      refine lv_icmp_lt (tgt := 30) hx hb dX8_kindOf_17 (by decide) (fun c5 => ?_) (fun c5 => ?_)
      · have hw := hw.1 c5
        refine lv_iconst (v := 0) hx hb dX8_kindOf_30 (by decide) ?_
        exact hRet (0 : Int32) _ _ hw (vp_nar_int _) dX8_kindOf_31
      · have hw := hw.2 c5
        refine lv_iload_n hx hb dX8_kindOf_20 rfl (lv_at hl 0 rfl) ?_
        refine lv_bipush (v := (57)) hx hb dX8_kindOf_21 (by decide) ?_
        refine lv_icmp_gt (tgt := 30) hx hb dX8_kindOf_23 (by decide) (fun c6 => ?_) (fun c6 => ?_)
        · have hw := hw.1 c6
          refine lv_iconst (v := 0) hx hb dX8_kindOf_30 (by decide) ?_
          exact hRet (0 : Int32) _ _ hw (vp_nar_int _) dX8_kindOf_31
        · have hw := hw.2 c6
          refine lv_iconst (v := 2) hx hb dX8_kindOf_26 (by decide) ?_
          refine lv_goto (tgt := 31) hx hb dX8_kindOf_27 (by decide) ?_
          exact hRet (2 : Int32) _ _ hw (vp_nar_int _) dX8_kindOf_31
    · have hw := hw.2 c4
      refine lv_iconst (v := 1) hx hb dX8_kindOf_12 (by decide) ?_
      exact hRet (1 : Int32) _ _ hw (vp_nar_int _) dX8_kindOf_13
def wX8_byteAt (p0 : Int32) (F_size : Int32) (A_bytes : Nat → Int32) (K : Int32 → Prop) : Prop :=
  ((p0 < (0 : Int32) → K (-1 : Int32)) ∧ (¬ p0 < (0 : Int32) → ((F_size ≤ p0 → K (-1 : Int32)) ∧ (¬ F_size ≤ p0 → (vp_in p0 160 ∧ K (A_bytes p0.toNatClampNeg))))))
abbrev rmX8_byteAt : Room := { frames := 0, cells := 0, slots := 0, locals := 0 }
theorem nd_X8_byteAt : yX8_byteAt.cls = RX8 ∧ yX8_byteAt.cls ≠ "java/lang/invoke/MethodHandle" ∧ yX8_byteAt.cls ≠ "java/lang/invoke/VarHandle" ∧ (parseMethodDescriptor yX8_byteAt.desc).map (fun d => d.parameters.length) = some 1 := by decide +kernel
theorem hkX8_byteAt_X8 : ∀ w ∈ u_ws RX8 TX8 8, w ∈ wsX8_byteAt := fun w h => List.mem_cons_of_mem _ (inlX8 w h)
theorem hfX8_byteAt_15 : (Cond.fieldLink RX8 15 "NestReaders$Text" "size" "I") ∈ wsX8_byteAt := List.mem_cons_of_mem _ m4_0
theorem hfX8_byteAt_9 : (Cond.fieldLink RX8 9 "NestReaders$Text" "bytes" "[I") ∈ wsX8_byteAt := List.mem_cons_of_mem _ m3_23
set_option maxHeartbeats 4000000 in
set_option maxRecDepth 100000 in
theorem c_X8_byteAt (l : Launch) (G : va_G) (cI cJ cZ : ClassId) (q_t q_t_bytes : Nat) (F_size : Int32) (F_start : Int32) (F_behind : Int32) (F_from : Int32) (F_letter : Int32) (F_mark : Int32) (F_to : Int32) (A_bytes : Nat → Int32) (p0 : Int32) {K : Int32 → Prop} (hw : wX8_byteAt p0 F_size A_bytes K) : Met l yX8_byteAt wsX8_byteAt rmX8_byteAt (ms_P G (ms_T cI cJ cZ) [(q_t, .inr (8, [.ref q_t_bytes, .int F_size, .int F_start, .int F_behind, .int F_from, .int F_letter, .int F_mark, .int F_to])), (q_t_bytes, .inl (cI, 160, .inl A_bytes))] [.ref q_t, .int p0]) (ms_Qi K) 0 0 ms_N := by
  refine ms_si (cc := cX8_byteAt) (maxL := 2) (ty := .int) (by decide) rfl (Nat.le_of_ble_eq_true rfl) ?_
  intro p e s m args below meth c Q hx hb hml hown hts hK hP hD hRet ls hl
  have hl : lv_has ls 2 [(0, .ref q_t), (1, .int p0)] := hl
  have hown : s.vm.findClass RX8 = some m.cls := hown
  refine lv_iload_n hx hb dX8_byteAt_0 rfl (lv_at hl 1 rfl) ?_
  refine lv_if_lt (tgt := 21) hx hb dX8_byteAt_1 (by decide) (fun c1 => ?_) (fun c1 => ?_)
  · have hw := hw.1 c1
    refine lv_iconst (v := (-1)) hx hb dX8_byteAt_21 (by decide) ?_
    exact hRet (-1 : Int32) _ _ hw (vp_nar_int _) dX8_byteAt_22
  · have hw := hw.2 c1
    refine lv_iload_n hx hb dX8_byteAt_4 rfl (lv_at hl 1 rfl) ?_
    refine lv_aload_n hx hb dX8_byteAt_5 rfl (lv_at hl 0 rfl) ?_
    refine va_get (D := G) (ci := 8) (v := .int F_size) (C := RX8) (T := TX8) (N := 8) hx hb hts hkX8_byteAt_X8 hown hK hP 0 rfl rfl 1 (by decide) (hts (.fieldLink RX8 15 "NestReaders$Text" "size" "I") hfX8_byteAt_15) (fun _ h9 => h9) rfl dX8_byteAt_6 ?_
    refine lv_icmp_ge (tgt := 21) hx hb dX8_byteAt_9 (by decide) (fun c2 => ?_) (fun c2 => ?_)
    · have hw := hw.1 c2
      refine lv_iconst (v := (-1)) hx hb dX8_byteAt_21 (by decide) ?_
      exact hRet (-1 : Int32) _ _ hw (vp_nar_int _) dX8_byteAt_22
    · have hw := hw.2 c2
      refine lv_aload_n hx hb dX8_byteAt_12 rfl (lv_at hl 0 rfl) ?_
      refine va_get (D := G) (ci := 8) (v := .ref q_t_bytes) (C := RX8) (T := TX8) (N := 8) hx hb hts hkX8_byteAt_X8 hown hK hP 0 rfl rfl 0 (by decide) (hts (.fieldLink RX8 9 "NestReaders$Text" "bytes" "[I") hfX8_byteAt_9) (fun _ h9 => h9) rfl dX8_byteAt_13 ?_
      refine lv_iload_n hx hb dX8_byteAt_16 rfl (lv_at hl 1 rfl) ?_
      refine va_iald (D := G) hx hb hK hP 1 0 rfl rfl hw.1 dX8_byteAt_17 ?_
      have hw := hw.2
      refine lv_goto (tgt := 22) hx hb dX8_byteAt_18 (by decide) ?_
      exact hRet (A_bytes p0.toNatClampNeg) _ _ hw (vp_nar_int _) dX8_byteAt_22
def wX8_step_L87 (F_size : Int32) (A_bytes : Nat → Int32) (r4 : Int32) (E87 : Int32 → Prop) (F_behind_87 : Int32) : Prop :=
  ∀ P87 : Int32 → Prop, (∀ (F_behind_87 : Int32), ((r4 = (0 : Int32) → E87 F_behind_87) ∧ (¬ r4 = (0 : Int32) → ((F_size ≤ F_behind_87 → E87 F_behind_87) ∧ (¬ F_size ≤ F_behind_87 → (wX8_byteAt F_behind_87 F_size A_bytes (fun r7 => (wX8_kindOf r7 (fun r8 => ((r8 = r4 → (∀ x10 : Int32, x10 = (F_behind_87 + (1 : Int32)) → P87 x10)) ∧ (¬ r8 = r4 → E87 F_behind_87)))))))))) → P87 F_behind_87) → P87 F_behind_87
def wX8_step_L8 (F_size : Int32) (A_bytes : Nat → Int32) (E8 : Int32 → Prop) (F_start_8 : Int32) : Prop :=
  ∀ P8 : Int32 → Prop, (∀ (F_start_8 : Int32), ((F_size ≤ F_start_8 → E8 F_start_8) ∧ (¬ F_size ≤ F_start_8 → (wX8_byteAt F_start_8 F_size A_bytes (fun r12 => ((r12 = (32 : Int32) → (∀ x14 : Int32, x14 = (F_start_8 + (1 : Int32)) → P8 x14)) ∧ (¬ r12 = (32 : Int32) → E8 F_start_8)))))) → P8 F_start_8) → P8 F_start_8
def wX8_step (F_size : Int32) (F_start : Int32) (F_behind : Int32) (A_bytes : Nat → Int32) (K : Int32 → Int32 → Prop) : Prop :=
  (∀ E8 : Int32 → Prop, (∀ (F_start_8 : Int32), ((F_start_8 < F_size → (∀ x2 : Int32, x2 = (F_start_8 + (1 : Int32)) → (wX8_byteAt F_start_8 F_size A_bytes (fun r3 => (wX8_kindOf r3 (fun r4 => (∀ E87 : Int32 → Prop, (∀ (F_behind_87 : Int32), K F_start_8 F_behind_87 → E87 F_behind_87) → wX8_step_L87 F_size A_bytes r4 E87 x2))))))) ∧ (¬ F_start_8 < F_size → K F_start_8 F_start_8)) → E8 F_start_8) → wX8_step_L8 F_size A_bytes E8 F_behind)
abbrev rmX8_step : Room := { frames := 1, cells := 0, slots := 0, locals := 21 }
theorem nd_X8_step : yX8_step.cls = RX8 ∧ yX8_step.cls ≠ "java/lang/invoke/MethodHandle" ∧ yX8_step.cls ≠ "java/lang/invoke/VarHandle" ∧ (parseMethodDescriptor yX8_step.desc).map (fun d => d.parameters.length) = some 0 := by decide +kernel
theorem hkX8_step_X8 : ∀ w ∈ u_ws RX8 TX8 8, w ∈ wsX8_step := fun w h => List.mem_cons_of_mem _ (inlX8 w h)
theorem hfX8_step_22 : (Cond.fieldLink RX8 22 "NestReaders$Text" "behind" "I") ∈ wsX8_step := List.mem_cons_of_mem _ m4_2
theorem hfX8_step_19 : (Cond.fieldLink RX8 19 "NestReaders$Text" "start" "I") ∈ wsX8_step := List.mem_cons_of_mem _ m4_1
theorem hfX8_step_15 : (Cond.fieldLink RX8 15 "NestReaders$Text" "size" "I") ∈ wsX8_step := List.mem_cons_of_mem _ m4_0
set_option maxHeartbeats 4000000 in
set_option maxRecDepth 100000 in
theorem c_X8_step (l : Launch) (G : va_G) (cI cJ cZ : ClassId) (q_t q_t_bytes : Nat) (sz : Nat) (F_size : Int32) (F_start : Int32) (F_behind : Int32) (F_from : Int32) (F_letter : Int32) (F_mark : Int32) (F_to : Int32) (A_bytes : Nat → Int32) {K : Int32 → Int32 → Prop} (hw : wX8_step F_size F_start F_behind A_bytes K) : Met l yX8_step wsX8_step rmX8_step (ms_Pz G (ms_T cI cJ cZ) [(q_t, .inr (8, [.ref q_t_bytes, .int F_size, .int F_start, .int F_behind, .int F_from, .int F_letter, .int F_mark, .int F_to])), (q_t_bytes, .inl (cI, 160, .inl A_bytes))] sz [.ref q_t]) (ms_Wv G (ms_T cI cJ cZ) (fun (u : Int32 × Int32) => K u.1 u.2) (fun u : Int32 × Int32 => [(q_t, .inr (8, [.ref q_t_bytes, .int F_size, .int u.1, .int u.2, .int F_from, .int F_letter, .int F_mark, .int F_to])), (q_t_bytes, .inl (cI, 160, .inl A_bytes))]) (va_A [(q_t, .inr (8, [.ref q_t_bytes, .int F_size, .int F_start, .int F_behind, .int F_from, .int F_letter, .int F_mark, .int F_to])), (q_t_bytes, .inl (cI, 160, .inl A_bytes))] sz)) 0 0 (va_A [(q_t, .inr (8, [.ref q_t_bytes, .int F_size, .int F_start, .int F_behind, .int F_from, .int F_letter, .int F_mark, .int F_to])), (q_t_bytes, .inl (cI, 160, .inl A_bytes))] sz) := by
  refine ms_tv (cc := cX8_step) (maxL := 2) (by decide) rfl (Nat.le_of_ble_eq_true rfl) ?_
  intro p e s m args below meth c Q A hx hb hml hown hts hK hP hD hS hA hRet ls hl
  have hl : lv_has ls 2 [(0, .ref q_t)] := hl
  have hown : s.vm.findClass RX8 = some m.cls := hown
  refine lv_aload_n hx hb dX8_step_0 rfl (lv_at hl 0 rfl) ?_
  refine lv_aload_n hx hb dX8_step_1 rfl (lv_at hl 0 rfl) ?_
  refine va_get (D := G) (ci := 8) (v := .int F_behind) (C := RX8) (T := TX8) (N := 8) hx hb hts hkX8_step_X8 hown hK hP 0 rfl rfl 3 (by decide) (hts (.fieldLink RX8 22 "NestReaders$Text" "behind" "I") hfX8_step_22) (fun _ h9 => h9) rfl dX8_step_2 ?_
  refine va_put (D := G) (ci := 8) (v := .int F_behind) (ty := .int) (C := RX8) (T := TX8) (N := 8) hx hb hts hkX8_step_X8 tyX8 tyX8_ok nmX8 hown hK hP hD hS 0 rfl rfl 2 (by decide) (hts (.fieldLink RX8 19 "NestReaders$Text" "start" "I") hfX8_step_19) (fun _ h9 => h9) rfl (by decide +kernel) rfl rfl (Nat.le_of_ble_eq_true rfl) dX8_step_5 (fun H locs hP hD hS => ?_)
  have hP : va_P G vwCl [(q_t, .inr (8, [.ref q_t_bytes, .int F_size, .int F_behind, .int F_behind, .int F_from, .int F_letter, .int F_mark, .int F_to])), (q_t_bytes, .inl (cI, 160, .inl A_bytes))] H := hP
  have hD : va_D A [(q_t, .inr (8, [.ref q_t_bytes, .int F_size, .int F_behind, .int F_behind, .int F_from, .int F_letter, .int F_mark, .int F_to])), (q_t_bytes, .inl (cI, 160, .inl A_bytes))] := hD
  have hw := hw (fun F_start_8 => ∀ (H : Heap) (locs : List Loc), va_P G vwCl [(q_t, .inr (8, [.ref q_t_bytes, .int F_size, .int F_start_8, .int F_behind, .int F_from, .int F_letter, .int F_mark, .int F_to])), (q_t_bytes, .inl (cI, 160, .inl A_bytes))] H → va_D A [(q_t, .inr (8, [.ref q_t_bytes, .int F_size, .int F_start_8, .int F_behind, .int F_from, .int F_letter, .int F_mark, .int F_to])), (q_t_bytes, .inl (cI, 160, .inl A_bytes))] → va_S A s.heap H locs → ∀ ls : Array Slot, lv_has ls 2 [(0, .ref q_t)] → W p l e rmX8_step s m args below meth c H locs 0 0 Q (F0 m 45 ls [])) (fun F_start_8 hw H locs hP hD hS ls hl => by
    refine lv_aload_n hx hb dX8_step_45 rfl (lv_at hl 0 rfl) ?_
    refine lv_aload_n hx hb dX8_step_46 rfl (lv_at hl 0 rfl) ?_
    refine va_get (D := G) (ci := 8) (v := .int F_start_8) (C := RX8) (T := TX8) (N := 8) hx hb hts hkX8_step_X8 hown hK hP 0 rfl rfl 2 (by decide) (hts (.fieldLink RX8 19 "NestReaders$Text" "start" "I") hfX8_step_19) (fun _ h9 => h9) rfl dX8_step_47 ?_
    refine va_put (D := G) (ci := 8) (v := .int F_start_8) (ty := .int) (C := RX8) (T := TX8) (N := 8) hx hb hts hkX8_step_X8 tyX8 tyX8_ok nmX8 hown hK hP hD hS 0 rfl rfl 3 (by decide) (hts (.fieldLink RX8 22 "NestReaders$Text" "behind" "I") hfX8_step_22) (fun _ h9 => h9) rfl (by decide +kernel) rfl rfl (Nat.le_of_ble_eq_true rfl) dX8_step_50 (fun H locs hP hD hS => ?_)
    have hP : va_P G vwCl [(q_t, .inr (8, [.ref q_t_bytes, .int F_size, .int F_start_8, .int F_start_8, .int F_from, .int F_letter, .int F_mark, .int F_to])), (q_t_bytes, .inl (cI, 160, .inl A_bytes))] H := hP
    have hD : va_D A [(q_t, .inr (8, [.ref q_t_bytes, .int F_size, .int F_start_8, .int F_start_8, .int F_from, .int F_letter, .int F_mark, .int F_to])), (q_t_bytes, .inl (cI, 160, .inl A_bytes))] := hD
    refine lv_aload_n hx hb dX8_step_53 rfl (lv_at hl 0 rfl) ?_
    refine va_get (D := G) (ci := 8) (v := .int F_start_8) (C := RX8) (T := TX8) (N := 8) hx hb hts hkX8_step_X8 hown hK hP 0 rfl rfl 2 (by decide) (hts (.fieldLink RX8 19 "NestReaders$Text" "start" "I") hfX8_step_19) (fun _ h9 => h9) rfl dX8_step_54 ?_
    refine lv_aload_n hx hb dX8_step_57 rfl (lv_at hl 0 rfl) ?_
    refine va_get (D := G) (ci := 8) (v := .int F_size) (C := RX8) (T := TX8) (N := 8) hx hb hts hkX8_step_X8 hown hK hP 0 rfl rfl 1 (by decide) (hts (.fieldLink RX8 15 "NestReaders$Text" "size" "I") hfX8_step_15) (fun _ h9 => h9) rfl dX8_step_58 ?_
    refine lv_icmp_lt (tgt := 65) hx hb dX8_step_61 (by decide) (fun c1 => ?_) (fun c1 => ?_)
    · have hw := hw.1 c1
      refine lv_aload_n hx hb dX8_step_65 rfl (lv_at hl 0 rfl) ?_
      refine lv_dup hx hb dX8_step_66 rfl ?_
      refine va_get (D := G) (ci := 8) (v := .int F_start_8) (C := RX8) (T := TX8) (N := 8) hx hb hts hkX8_step_X8 hown hK hP 0 rfl rfl 3 (by decide) (hts (.fieldLink RX8 22 "NestReaders$Text" "behind" "I") hfX8_step_22) (fun _ h9 => h9) rfl dX8_step_67 ?_
      refine lv_iconst (v := 1) hx hb dX8_step_70 (by decide) ?_
      refine lv_iadd hx hb dX8_step_71 ?_
      refine lv_topi (fun x2 ex2 => ?_)
      have hw := hw x2 ex2
      refine va_put (D := G) (ci := 8) (v := .int x2) (ty := .int) (C := RX8) (T := TX8) (N := 8) hx hb hts hkX8_step_X8 tyX8 tyX8_ok nmX8 hown hK hP hD hS 0 rfl rfl 3 (by decide) (hts (.fieldLink RX8 22 "NestReaders$Text" "behind" "I") hfX8_step_22) (fun _ h9 => h9) rfl (by decide +kernel) rfl rfl (Nat.le_of_ble_eq_true rfl) dX8_step_72 (fun H locs hP hD hS => ?_)
      have hP : va_P G vwCl [(q_t, .inr (8, [.ref q_t_bytes, .int F_size, .int F_start_8, .int x2, .int F_from, .int F_letter, .int F_mark, .int F_to])), (q_t_bytes, .inl (cI, 160, .inl A_bytes))] H := hP
      have hD : va_D A [(q_t, .inr (8, [.ref q_t_bytes, .int F_size, .int F_start_8, .int x2, .int F_from, .int F_letter, .int F_mark, .int F_to])), (q_t_bytes, .inl (cI, 160, .inl A_bytes))] := hD
      refine lv_aload_n hx hb dX8_step_75 rfl (lv_at hl 0 rfl) ?_
      refine lv_aload_n hx hb dX8_step_76 rfl (lv_at hl 0 rfl) ?_
      refine va_get (D := G) (ci := 8) (v := .int F_start_8) (C := RX8) (T := TX8) (N := 8) hx hb hts hkX8_step_X8 hown hK hP 0 rfl rfl 2 (by decide) (hts (.fieldLink RX8 19 "NestReaders$Text" "start" "I") hfX8_step_19) (fun _ h9 => h9) rfl dX8_step_77 ?_
      refine ms_cVi ⟨hx, hb, hml, hown, hts⟩ hK hP hD (c_X8_byteAt l G cI cJ cZ q_t q_t_bytes F_size F_start_8 x2 F_from F_letter F_mark F_to A_bytes F_start_8 hw) gX8_step_X8_byteAt rfl nd_X8_byteAt (ci := 8) rfl rfl rfl ⟨rfl, rfl⟩ rfl ⟨Nat.le_of_ble_eq_true rfl, Nat.le_of_ble_eq_true rfl⟩ hl.1 (rest := []) rfl (Nat.le_of_ble_eq_true rfl)  [0, 1] rfl rfl dX8_step_80 (fun r3 hw => ?_)
      refine ms_cSi ⟨hx, hb, hml, hown, hts⟩ hK hP hD (c_X8_kindOf l G cI cJ cZ r3 hw) gX8_step_X8_kindOf rfl nd_X8_kindOf ⟨rfl, rfl⟩ rfl ⟨Nat.le_of_ble_eq_true rfl, Nat.le_of_ble_eq_true rfl⟩ hl.1 (rest := []) rfl (Nat.le_of_ble_eq_true rfl)  [] rfl rfl dX8_step_83 (fun r4 hw => ?_)
      refine lv_istore_n (lv' := [(1, .int r4), (0, .ref q_t)]) hx hb dX8_step_86 rfl hl (by decide) rfl (fun ls hl => ?_)
      have hw := hw (fun F_behind_87 => ∀ (H : Heap) (locs : List Loc), va_P G vwCl [(q_t, .inr (8, [.ref q_t_bytes, .int F_size, .int F_start_8, .int F_behind_87, .int F_from, .int F_letter, .int F_mark, .int F_to])), (q_t_bytes, .inl (cI, 160, .inl A_bytes))] H → va_D A [(q_t, .inr (8, [.ref q_t_bytes, .int F_size, .int F_start_8, .int F_behind_87, .int F_from, .int F_letter, .int F_mark, .int F_to])), (q_t_bytes, .inl (cI, 160, .inl A_bytes))] → va_S A s.heap H locs → ∀ ls : Array Slot, lv_has ls 2 [] → W p l e rmX8_step s m args below meth c H locs 0 0 Q (F0 m 130 ls [])) (fun F_behind_87 hw H locs hP hD hS ls hl => by
        exact hRet ⟨F_start_8, F_behind_87⟩ H locs _ _ hw hP hD hS dX8_step_130
        )
      refine hw (fun F_behind_87 => ∀ (H : Heap) (locs : List Loc), va_P G vwCl [(q_t, .inr (8, [.ref q_t_bytes, .int F_size, .int F_start_8, .int F_behind_87, .int F_from, .int F_letter, .int F_mark, .int F_to])), (q_t_bytes, .inl (cI, 160, .inl A_bytes))] H → va_D A [(q_t, .inr (8, [.ref q_t_bytes, .int F_size, .int F_start_8, .int F_behind_87, .int F_from, .int F_letter, .int F_mark, .int F_to])), (q_t_bytes, .inl (cI, 160, .inl A_bytes))] → va_S A s.heap H locs → ∀ ls : Array Slot, lv_has ls 2 [(0, .ref q_t), (1, .int r4)] → W p l e rmX8_step s m args below meth c H locs 0 0 Q (F0 m 87 ls [])) (fun F_behind_87 hw H locs hP hD hS ls hl => ?_) H locs hP hD hS ls (lv_sub hl [1, 0] rfl)
      refine lv_iload_n hx hb dX8_step_87 rfl (lv_at hl 1 rfl) ?_
      refine lv_if_eq (tgt := 130) hx hb dX8_step_88 (by decide) (fun c5 => ?_) (fun c5 => ?_)
      · have hw := hw.1 c5
        exact hw H locs hP hD hS ls (lv_sub hl [] rfl)
      · have hw := hw.2 c5
        refine lv_aload_n hx hb dX8_step_91 rfl (lv_at hl 0 rfl) ?_
        refine va_get (D := G) (ci := 8) (v := .int F_behind_87) (C := RX8) (T := TX8) (N := 8) hx hb hts hkX8_step_X8 hown hK hP 0 rfl rfl 3 (by decide) (hts (.fieldLink RX8 22 "NestReaders$Text" "behind" "I") hfX8_step_22) (fun _ h9 => h9) rfl dX8_step_92 ?_
        refine lv_aload_n hx hb dX8_step_95 rfl (lv_at hl 0 rfl) ?_
        refine va_get (D := G) (ci := 8) (v := .int F_size) (C := RX8) (T := TX8) (N := 8) hx hb hts hkX8_step_X8 hown hK hP 0 rfl rfl 1 (by decide) (hts (.fieldLink RX8 15 "NestReaders$Text" "size" "I") hfX8_step_15) (fun _ h9 => h9) rfl dX8_step_96 ?_
        refine lv_icmp_ge (tgt := 130) hx hb dX8_step_99 (by decide) (fun c6 => ?_) (fun c6 => ?_)
        · have hw := hw.1 c6
          exact hw H locs hP hD hS ls (lv_sub hl [] rfl)
        · have hw := hw.2 c6
          refine lv_aload_n hx hb dX8_step_102 rfl (lv_at hl 0 rfl) ?_
          refine lv_aload_n hx hb dX8_step_103 rfl (lv_at hl 0 rfl) ?_
          refine va_get (D := G) (ci := 8) (v := .int F_behind_87) (C := RX8) (T := TX8) (N := 8) hx hb hts hkX8_step_X8 hown hK hP 0 rfl rfl 3 (by decide) (hts (.fieldLink RX8 22 "NestReaders$Text" "behind" "I") hfX8_step_22) (fun _ h9 => h9) rfl dX8_step_104 ?_
          refine ms_cVi ⟨hx, hb, hml, hown, hts⟩ hK hP hD (c_X8_byteAt l G cI cJ cZ q_t q_t_bytes F_size F_start_8 F_behind_87 F_from F_letter F_mark F_to A_bytes F_behind_87 hw) gX8_step_X8_byteAt rfl nd_X8_byteAt (ci := 8) rfl rfl rfl ⟨rfl, rfl⟩ rfl ⟨Nat.le_of_ble_eq_true rfl, Nat.le_of_ble_eq_true rfl⟩ hl.1 (rest := []) rfl (Nat.le_of_ble_eq_true rfl)  [0, 1] rfl rfl dX8_step_107 (fun r7 hw => ?_)
          refine ms_cSi ⟨hx, hb, hml, hown, hts⟩ hK hP hD (c_X8_kindOf l G cI cJ cZ r7 hw) gX8_step_X8_kindOf rfl nd_X8_kindOf ⟨rfl, rfl⟩ rfl ⟨Nat.le_of_ble_eq_true rfl, Nat.le_of_ble_eq_true rfl⟩ hl.1 (rest := []) rfl (Nat.le_of_ble_eq_true rfl)  [] rfl rfl dX8_step_110 (fun r8 hw => ?_)
          refine lv_iload_n hx hb dX8_step_113 rfl (lv_at hl 1 rfl) ?_
          refine lv_icmp_ne (tgt := 130) hx hb dX8_step_114 (by decide) (fun c9 => ?_) (fun c9 => ?_)
          · have hw := hw.2 c9
            exact hw H locs hP hD hS ls (lv_sub hl [] rfl)
          · have hw := hw.1 c9
            refine lv_aload_n hx hb dX8_step_117 rfl (lv_at hl 0 rfl) ?_
            refine lv_dup hx hb dX8_step_118 rfl ?_
            refine va_get (D := G) (ci := 8) (v := .int F_behind_87) (C := RX8) (T := TX8) (N := 8) hx hb hts hkX8_step_X8 hown hK hP 0 rfl rfl 3 (by decide) (hts (.fieldLink RX8 22 "NestReaders$Text" "behind" "I") hfX8_step_22) (fun _ h9 => h9) rfl dX8_step_119 ?_
            refine lv_iconst (v := 1) hx hb dX8_step_122 (by decide) ?_
            refine lv_iadd hx hb dX8_step_123 ?_
            refine lv_topi (fun x10 ex10 => ?_)
            have hw := hw x10 ex10
            refine va_put (D := G) (ci := 8) (v := .int x10) (ty := .int) (C := RX8) (T := TX8) (N := 8) hx hb hts hkX8_step_X8 tyX8 tyX8_ok nmX8 hown hK hP hD hS 0 rfl rfl 3 (by decide) (hts (.fieldLink RX8 22 "NestReaders$Text" "behind" "I") hfX8_step_22) (fun _ h9 => h9) rfl (by decide +kernel) rfl rfl (Nat.le_of_ble_eq_true rfl) dX8_step_124 (fun H locs hP hD hS => ?_)
            have hP : va_P G vwCl [(q_t, .inr (8, [.ref q_t_bytes, .int F_size, .int F_start_8, .int x10, .int F_from, .int F_letter, .int F_mark, .int F_to])), (q_t_bytes, .inl (cI, 160, .inl A_bytes))] H := hP
            have hD : va_D A [(q_t, .inr (8, [.ref q_t_bytes, .int F_size, .int F_start_8, .int x10, .int F_from, .int F_letter, .int F_mark, .int F_to])), (q_t_bytes, .inl (cI, 160, .inl A_bytes))] := hD
            refine lv_goto (tgt := 87) hx hb dX8_step_127 (by decide) ?_
            exact hw H locs hP hD hS ls (lv_sub hl [0, 1] rfl)
    · have hw := hw.2 c1
      exact hRet ⟨F_start_8, F_start_8⟩ H locs _ _ hw hP hD hS dX8_step_64
    )
  refine hw (fun F_start_8 => ∀ (H : Heap) (locs : List Loc), va_P G vwCl [(q_t, .inr (8, [.ref q_t_bytes, .int F_size, .int F_start_8, .int F_behind, .int F_from, .int F_letter, .int F_mark, .int F_to])), (q_t_bytes, .inl (cI, 160, .inl A_bytes))] H → va_D A [(q_t, .inr (8, [.ref q_t_bytes, .int F_size, .int F_start_8, .int F_behind, .int F_from, .int F_letter, .int F_mark, .int F_to])), (q_t_bytes, .inl (cI, 160, .inl A_bytes))] → va_S A s.heap H locs → ∀ ls : Array Slot, lv_has ls 2 [(0, .ref q_t)] → W p l e rmX8_step s m args below meth c H locs 0 0 Q (F0 m 8 ls [])) (fun F_start_8 hw H locs hP hD hS ls hl => ?_) H locs hP hD hS ls (lv_sub hl [0] rfl)
  refine lv_aload_n hx hb dX8_step_8 rfl (lv_at hl 0 rfl) ?_
  refine va_get (D := G) (ci := 8) (v := .int F_start_8) (C := RX8) (T := TX8) (N := 8) hx hb hts hkX8_step_X8 hown hK hP 0 rfl rfl 2 (by decide) (hts (.fieldLink RX8 19 "NestReaders$Text" "start" "I") hfX8_step_19) (fun _ h9 => h9) rfl dX8_step_9 ?_
  refine lv_aload_n hx hb dX8_step_12 rfl (lv_at hl 0 rfl) ?_
  refine va_get (D := G) (ci := 8) (v := .int F_size) (C := RX8) (T := TX8) (N := 8) hx hb hts hkX8_step_X8 hown hK hP 0 rfl rfl 1 (by decide) (hts (.fieldLink RX8 15 "NestReaders$Text" "size" "I") hfX8_step_15) (fun _ h9 => h9) rfl dX8_step_13 ?_
  refine lv_icmp_ge (tgt := 45) hx hb dX8_step_16 (by decide) (fun c11 => ?_) (fun c11 => ?_)
  · have hw := hw.1 c11
    exact hw H locs hP hD hS ls (lv_sub hl [0] rfl)
  · have hw := hw.2 c11
    refine lv_aload_n hx hb dX8_step_19 rfl (lv_at hl 0 rfl) ?_
    refine lv_aload_n hx hb dX8_step_20 rfl (lv_at hl 0 rfl) ?_
    refine va_get (D := G) (ci := 8) (v := .int F_start_8) (C := RX8) (T := TX8) (N := 8) hx hb hts hkX8_step_X8 hown hK hP 0 rfl rfl 2 (by decide) (hts (.fieldLink RX8 19 "NestReaders$Text" "start" "I") hfX8_step_19) (fun _ h9 => h9) rfl dX8_step_21 ?_
    refine ms_cVi ⟨hx, hb, hml, hown, hts⟩ hK hP hD (c_X8_byteAt l G cI cJ cZ q_t q_t_bytes F_size F_start_8 F_behind F_from F_letter F_mark F_to A_bytes F_start_8 hw) gX8_step_X8_byteAt rfl nd_X8_byteAt (ci := 8) rfl rfl rfl ⟨rfl, rfl⟩ rfl ⟨Nat.le_of_ble_eq_true rfl, Nat.le_of_ble_eq_true rfl⟩ hl.1 (rest := []) rfl (Nat.le_of_ble_eq_true rfl)  [0, 1] rfl rfl dX8_step_24 (fun r12 hw => ?_)
    refine lv_bipush (v := (32)) hx hb dX8_step_27 (by decide) ?_
    refine lv_icmp_ne (tgt := 45) hx hb dX8_step_29 (by decide) (fun c13 => ?_) (fun c13 => ?_)
    · have hw := hw.2 c13
      exact hw H locs hP hD hS ls (lv_sub hl [0] rfl)
    · have hw := hw.1 c13
      refine lv_aload_n hx hb dX8_step_32 rfl (lv_at hl 0 rfl) ?_
      refine lv_dup hx hb dX8_step_33 rfl ?_
      refine va_get (D := G) (ci := 8) (v := .int F_start_8) (C := RX8) (T := TX8) (N := 8) hx hb hts hkX8_step_X8 hown hK hP 0 rfl rfl 2 (by decide) (hts (.fieldLink RX8 19 "NestReaders$Text" "start" "I") hfX8_step_19) (fun _ h9 => h9) rfl dX8_step_34 ?_
      refine lv_iconst (v := 1) hx hb dX8_step_37 (by decide) ?_
      refine lv_iadd hx hb dX8_step_38 ?_
      refine lv_topi (fun x14 ex14 => ?_)
      have hw := hw x14 ex14
      refine va_put (D := G) (ci := 8) (v := .int x14) (ty := .int) (C := RX8) (T := TX8) (N := 8) hx hb hts hkX8_step_X8 tyX8 tyX8_ok nmX8 hown hK hP hD hS 0 rfl rfl 2 (by decide) (hts (.fieldLink RX8 19 "NestReaders$Text" "start" "I") hfX8_step_19) (fun _ h9 => h9) rfl (by decide +kernel) rfl rfl (Nat.le_of_ble_eq_true rfl) dX8_step_39 (fun H locs hP hD hS => ?_)
      have hP : va_P G vwCl [(q_t, .inr (8, [.ref q_t_bytes, .int F_size, .int x14, .int F_behind, .int F_from, .int F_letter, .int F_mark, .int F_to])), (q_t_bytes, .inl (cI, 160, .inl A_bytes))] H := hP
      have hD : va_D A [(q_t, .inr (8, [.ref q_t_bytes, .int F_size, .int x14, .int F_behind, .int F_from, .int F_letter, .int F_mark, .int F_to])), (q_t_bytes, .inl (cI, 160, .inl A_bytes))] := hD
      refine lv_goto (tgt := 8) hx hb dX8_step_42 (by decide) ?_
      exact hw H locs hP hD hS ls (lv_sub hl [0] rfl)
def wX8_head (F_size : Int32) (F_start : Int32) (A_bytes : Nat → Int32) (K : Int32 → Prop) : Prop :=
  ((F_size ≤ F_start → K (-1 : Int32)) ∧ (¬ F_size ≤ F_start → (wX8_byteAt F_start F_size A_bytes (fun r2 => K r2))))
abbrev rmX8_head : Room := { frames := 1, cells := 0, slots := 0, locals := 21 }
theorem nd_X8_head : yX8_head.cls = RX8 ∧ yX8_head.cls ≠ "java/lang/invoke/MethodHandle" ∧ yX8_head.cls ≠ "java/lang/invoke/VarHandle" ∧ (parseMethodDescriptor yX8_head.desc).map (fun d => d.parameters.length) = some 0 := by decide +kernel
theorem hkX8_head_X8 : ∀ w ∈ u_ws RX8 TX8 8, w ∈ wsX8_head := fun w h => List.mem_cons_of_mem _ (inlX8 w h)
theorem hfX8_head_19 : (Cond.fieldLink RX8 19 "NestReaders$Text" "start" "I") ∈ wsX8_head := List.mem_cons_of_mem _ m4_1
theorem hfX8_head_15 : (Cond.fieldLink RX8 15 "NestReaders$Text" "size" "I") ∈ wsX8_head := List.mem_cons_of_mem _ m4_0
set_option maxHeartbeats 4000000 in
set_option maxRecDepth 100000 in
theorem c_X8_head (l : Launch) (G : va_G) (cI cJ cZ : ClassId) (q_t q_t_bytes : Nat) (F_size : Int32) (F_start : Int32) (F_behind : Int32) (F_from : Int32) (F_letter : Int32) (F_mark : Int32) (F_to : Int32) (A_bytes : Nat → Int32) {K : Int32 → Prop} (hw : wX8_head F_size F_start A_bytes K) : Met l yX8_head wsX8_head rmX8_head (ms_P G (ms_T cI cJ cZ) [(q_t, .inr (8, [.ref q_t_bytes, .int F_size, .int F_start, .int F_behind, .int F_from, .int F_letter, .int F_mark, .int F_to])), (q_t_bytes, .inl (cI, 160, .inl A_bytes))] [.ref q_t]) (ms_Qi K) 0 0 ms_N := by
  refine ms_si (cc := cX8_head) (maxL := 1) (ty := .int) (by decide) rfl (Nat.le_of_ble_eq_true rfl) ?_
  intro p e s m args below meth c Q hx hb hml hown hts hK hP hD hRet ls hl
  have hl : lv_has ls 1 [(0, .ref q_t)] := hl
  have hown : s.vm.findClass RX8 = some m.cls := hown
  refine lv_aload_n hx hb dX8_head_0 rfl (lv_at hl 0 rfl) ?_
  refine va_get (D := G) (ci := 8) (v := .int F_start) (C := RX8) (T := TX8) (N := 8) hx hb hts hkX8_head_X8 hown hK hP 0 rfl rfl 2 (by decide) (hts (.fieldLink RX8 19 "NestReaders$Text" "start" "I") hfX8_head_19) (fun _ h9 => h9) rfl dX8_head_1 ?_
  refine lv_aload_n hx hb dX8_head_4 rfl (lv_at hl 0 rfl) ?_
  refine va_get (D := G) (ci := 8) (v := .int F_size) (C := RX8) (T := TX8) (N := 8) hx hb hts hkX8_head_X8 hown hK hP 0 rfl rfl 1 (by decide) (hts (.fieldLink RX8 15 "NestReaders$Text" "size" "I") hfX8_head_15) (fun _ h9 => h9) rfl dX8_head_5 ?_
  refine lv_icmp_ge (tgt := 22) hx hb dX8_head_8 (by decide) (fun c1 => ?_) (fun c1 => ?_)
  · have hw := hw.1 c1
    refine lv_iconst (v := (-1)) hx hb dX8_head_22 (by decide) ?_
    exact hRet (-1 : Int32) _ _ hw (vp_nar_int _) dX8_head_23
  · have hw := hw.2 c1
    refine lv_aload_n hx hb dX8_head_11 rfl (lv_at hl 0 rfl) ?_
    refine lv_aload_n hx hb dX8_head_12 rfl (lv_at hl 0 rfl) ?_
    refine va_get (D := G) (ci := 8) (v := .int F_start) (C := RX8) (T := TX8) (N := 8) hx hb hts hkX8_head_X8 hown hK hP 0 rfl rfl 2 (by decide) (hts (.fieldLink RX8 19 "NestReaders$Text" "start" "I") hfX8_head_19) (fun _ h9 => h9) rfl dX8_head_13 ?_
    refine ms_cVi ⟨hx, hb, hml, hown, hts⟩ hK hP hD (c_X8_byteAt l G cI cJ cZ q_t q_t_bytes F_size F_start F_behind F_from F_letter F_mark F_to A_bytes F_start hw) gX8_head_X8_byteAt rfl nd_X8_byteAt (ci := 8) rfl rfl rfl ⟨rfl, rfl⟩ rfl ⟨Nat.le_of_ble_eq_true rfl, Nat.le_of_ble_eq_true rfl⟩ hl.1 (rest := []) rfl (Nat.le_of_ble_eq_true rfl)  [0, 1] rfl rfl dX8_head_16 (fun r2 hw => ?_)
    refine lv_goto (tgt := 23) hx hb dX8_head_19 (by decide) ?_
    exact hRet r2 _ _ hw (vp_nar_int _) dX8_head_23
def wX8_digit (F_size : Int32) (F_start : Int32) (F_behind : Int32) (A_bytes : Nat → Int32) (K : Int32 → Prop) : Prop :=
  (((F_behind - F_start) = (1 : Int32) → (wX8_head F_size F_start A_bytes (fun r2 => (wX8_kindOf r2 (fun r3 => ((r3 = (2 : Int32) → (wX8_head F_size F_start A_bytes (fun r5 => K (r5 - (48 : Int32))))) ∧ (¬ r3 = (2 : Int32) → K (-1 : Int32)))))))) ∧ (¬ (F_behind - F_start) = (1 : Int32) → K (-1 : Int32)))
abbrev rmX8_digit : Room := { frames := 2, cells := 0, slots := 0, locals := 41 }
theorem nd_X8_digit : yX8_digit.cls = RX8 ∧ yX8_digit.cls ≠ "java/lang/invoke/MethodHandle" ∧ yX8_digit.cls ≠ "java/lang/invoke/VarHandle" ∧ (parseMethodDescriptor yX8_digit.desc).map (fun d => d.parameters.length) = some 0 := by decide +kernel
theorem hkX8_digit_X8 : ∀ w ∈ u_ws RX8 TX8 8, w ∈ wsX8_digit := fun w h => List.mem_cons_of_mem _ (inlX8 w h)
theorem hfX8_digit_22 : (Cond.fieldLink RX8 22 "NestReaders$Text" "behind" "I") ∈ wsX8_digit := List.mem_cons_of_mem _ m4_2
theorem hfX8_digit_19 : (Cond.fieldLink RX8 19 "NestReaders$Text" "start" "I") ∈ wsX8_digit := List.mem_cons_of_mem _ m4_1
set_option maxHeartbeats 4000000 in
set_option maxRecDepth 100000 in
theorem c_X8_digit (l : Launch) (G : va_G) (cI cJ cZ : ClassId) (q_t q_t_bytes : Nat) (F_size : Int32) (F_start : Int32) (F_behind : Int32) (F_from : Int32) (F_letter : Int32) (F_mark : Int32) (F_to : Int32) (A_bytes : Nat → Int32) {K : Int32 → Prop} (hw : wX8_digit F_size F_start F_behind A_bytes K) : Met l yX8_digit wsX8_digit rmX8_digit (ms_P G (ms_T cI cJ cZ) [(q_t, .inr (8, [.ref q_t_bytes, .int F_size, .int F_start, .int F_behind, .int F_from, .int F_letter, .int F_mark, .int F_to])), (q_t_bytes, .inl (cI, 160, .inl A_bytes))] [.ref q_t]) (ms_Qi K) 0 0 ms_N := by
  refine ms_si (cc := cX8_digit) (maxL := 1) (ty := .int) (by decide) rfl (Nat.le_of_ble_eq_true rfl) ?_
  intro p e s m args below meth c Q hx hb hml hown hts hK hP hD hRet ls hl
  have hl : lv_has ls 1 [(0, .ref q_t)] := hl
  have hown : s.vm.findClass RX8 = some m.cls := hown
  refine lv_aload_n hx hb dX8_digit_0 rfl (lv_at hl 0 rfl) ?_
  refine va_get (D := G) (ci := 8) (v := .int F_behind) (C := RX8) (T := TX8) (N := 8) hx hb hts hkX8_digit_X8 hown hK hP 0 rfl rfl 3 (by decide) (hts (.fieldLink RX8 22 "NestReaders$Text" "behind" "I") hfX8_digit_22) (fun _ h9 => h9) rfl dX8_digit_1 ?_
  refine lv_aload_n hx hb dX8_digit_4 rfl (lv_at hl 0 rfl) ?_
  refine va_get (D := G) (ci := 8) (v := .int F_start) (C := RX8) (T := TX8) (N := 8) hx hb hts hkX8_digit_X8 hown hK hP 0 rfl rfl 2 (by decide) (hts (.fieldLink RX8 19 "NestReaders$Text" "start" "I") hfX8_digit_19) (fun _ h9 => h9) rfl dX8_digit_5 ?_
  refine lv_isub hx hb dX8_digit_8 ?_
  refine lv_iconst (v := 1) hx hb dX8_digit_9 (by decide) ?_
  refine lv_icmp_ne (tgt := 34) hx hb dX8_digit_10 (by decide) (fun c1 => ?_) (fun c1 => ?_)
  · have hw := hw.2 c1
    refine lv_iconst (v := (-1)) hx hb dX8_digit_34 (by decide) ?_
    exact hRet (-1 : Int32) _ _ hw (vp_nar_int _) dX8_digit_35
  · have hw := hw.1 c1
    refine lv_aload_n hx hb dX8_digit_13 rfl (lv_at hl 0 rfl) ?_
    refine ms_cVi ⟨hx, hb, hml, hown, hts⟩ hK hP hD (c_X8_head l G cI cJ cZ q_t q_t_bytes F_size F_start F_behind F_from F_letter F_mark F_to A_bytes hw) gX8_digit_X8_head rfl nd_X8_head (ci := 8) rfl rfl rfl ⟨rfl, rfl⟩ rfl ⟨Nat.le_of_ble_eq_true rfl, Nat.le_of_ble_eq_true rfl⟩ hl.1 (rest := []) rfl (Nat.le_of_ble_eq_true rfl)  [0, 1] rfl rfl dX8_digit_14 (fun r2 hw => ?_)
    refine ms_cSi ⟨hx, hb, hml, hown, hts⟩ hK hP hD (c_X8_kindOf l G cI cJ cZ r2 hw) gX8_digit_X8_kindOf rfl nd_X8_kindOf ⟨rfl, rfl⟩ rfl ⟨Nat.le_of_ble_eq_true rfl, Nat.le_of_ble_eq_true rfl⟩ hl.1 (rest := []) rfl (Nat.le_of_ble_eq_true rfl)  [] rfl rfl dX8_digit_17 (fun r3 hw => ?_)
    refine lv_iconst (v := 2) hx hb dX8_digit_20 (by decide) ?_
    refine lv_icmp_ne (tgt := 34) hx hb dX8_digit_21 (by decide) (fun c4 => ?_) (fun c4 => ?_)
    · have hw := hw.2 c4
      refine lv_iconst (v := (-1)) hx hb dX8_digit_34 (by decide) ?_
      exact hRet (-1 : Int32) _ _ hw (vp_nar_int _) dX8_digit_35
    · have hw := hw.1 c4
      refine lv_aload_n hx hb dX8_digit_24 rfl (lv_at hl 0 rfl) ?_
      refine ms_cVi ⟨hx, hb, hml, hown, hts⟩ hK hP hD (c_X8_head l G cI cJ cZ q_t q_t_bytes F_size F_start F_behind F_from F_letter F_mark F_to A_bytes hw) gX8_digit_X8_head rfl nd_X8_head (ci := 8) rfl rfl rfl ⟨rfl, rfl⟩ rfl ⟨Nat.le_of_ble_eq_true rfl, Nat.le_of_ble_eq_true rfl⟩ hl.1 (rest := []) rfl (Nat.le_of_ble_eq_true rfl)  [0, 1] rfl rfl dX8_digit_25 (fun r5 hw => ?_)
      refine lv_bipush (v := (48)) hx hb dX8_digit_28 (by decide) ?_
      refine lv_isub hx hb dX8_digit_30 ?_
      refine lv_goto (tgt := 35) hx hb dX8_digit_31 (by decide) ?_
      exact hRet (r5 - (48 : Int32)) _ _ hw (vp_nar_int _) dX8_digit_35
def wX8_isWord_L24 (w0 : Nat) (F_size : Int32) (F_start : Int32) (A_bytes : Nat → Int32) (E24 : Int32 → Int32 → Prop) (i24_2 : Int32) (i24_3 : Int32) : Prop :=
  ∀ P24 : Int32 → Int32 → Prop, (∀ (i24_2 : Int32) (i24_3 : Int32), ((i24_2 = (0 : Int32) → E24 i24_2 i24_3) ∧ (¬ i24_2 = (0 : Int32) → (∀ r4 : Int32, r4 = nI (ms_len.getD w0 0) → ((r4 ≤ i24_3 → E24 i24_2 i24_3) ∧ (¬ r4 ≤ i24_3 → (wX8_byteAt (F_start + i24_3) F_size A_bytes (fun r6 => (vp_in i24_3 (ms_len.getD w0 0) ∧ (∀ r7 : Int32, r7 = ms_ch w0 i24_3 → ((r6 = r7 → (∀ x10 : Int32, x10 = i24_3 + (1 : Int32) → P24 (1 : Int32) x10)) ∧ (¬ r6 = r7 → (∀ x9 : Int32, x9 = i24_3 + (1 : Int32) → P24 (0 : Int32) x9)))))))))))) → P24 i24_2 i24_3) → P24 i24_2 i24_3
def wX8_isWord (w0 : Nat) (F_size : Int32) (F_start : Int32) (F_behind : Int32) (A_bytes : Nat → Int32) (K : Int32 → Prop) : Prop :=
  (∀ r1 : Int32, r1 = nI (ms_len.getD w0 0) → (∀ J21 : Int32 → Prop, (∀ (s21_0 : Int32), (∀ E24 : Int32 → Int32 → Prop, (∀ (i24_2 : Int32) (i24_3 : Int32), (ms_z i24_2 ∧ K i24_2) → E24 i24_2 i24_3) → wX8_isWord_L24 w0 F_size F_start A_bytes E24 s21_0 (0 : Int32)) → J21 s21_0) → (((F_behind - F_start) = r1 → J21 (1 : Int32)) ∧ (¬ (F_behind - F_start) = r1 → J21 (0 : Int32)))))
abbrev rmX8_isWord : Room := { frames := 4, cells := 0, slots := 0, locals := 85 }
theorem nd_X8_isWord : yX8_isWord.cls = RX8 ∧ yX8_isWord.cls ≠ "java/lang/invoke/MethodHandle" ∧ yX8_isWord.cls ≠ "java/lang/invoke/VarHandle" ∧ (parseMethodDescriptor yX8_isWord.desc).map (fun d => d.parameters.length) = some 1 := by decide +kernel
theorem hkX8_isWord_X8 : ∀ w ∈ u_ws RX8 TX8 8, w ∈ wsX8_isWord := fun w h => List.mem_cons_of_mem _ (inlX8 w h)
theorem hfX8_isWord_22 : (Cond.fieldLink RX8 22 "NestReaders$Text" "behind" "I") ∈ wsX8_isWord := List.mem_cons_of_mem _ m4_2
theorem hfX8_isWord_19 : (Cond.fieldLink RX8 19 "NestReaders$Text" "start" "I") ∈ wsX8_isWord := List.mem_cons_of_mem _ m4_1
set_option maxHeartbeats 4000000 in
set_option maxRecDepth 100000 in
theorem c_X8_isWord (l : Launch) (G : va_G) (cI cJ cZ : ClassId) (adK adV : Nat → Nat) (qB : Nat) (q_t q_t_bytes : Nat) (F_size : Int32) (F_start : Int32) (F_behind : Int32) (F_from : Int32) (F_letter : Int32) (F_mark : Int32) (F_to : Int32) (A_bytes : Nat → Int32) (w0 : Nat) (hw0 : w0 < 4) {K : Int32 → Prop} (hw : wX8_isWord w0 F_size F_start F_behind A_bytes K) : Met l yX8_isWord wsX8_isWord rmX8_isWord (ms_X (ms_K adK adV qB ms_N) (ms_P G (ms_T cI cJ cZ) [(q_t, .inr (8, [.ref q_t_bytes, .int F_size, .int F_start, .int F_behind, .int F_from, .int F_letter, .int F_mark, .int F_to])), (q_t_bytes, .inl (cI, 160, .inl A_bytes))] [.ref q_t, .ref (adK w0)])) (ms_Qi (fun r : Int32 => ms_z r ∧ K r)) 0 0 ms_N := by
  refine ms_sXi (cc := cX8_isWord) (maxL := 4) (ty := .boolean) (by decide) rfl (Nat.le_of_ble_eq_true rfl) ?_
  intro p e s m args below meth c Q hx hb hml hown hts hK hP hD hX hRet ls hl
  have hl : lv_has ls 4 [(0, .ref q_t), (1, .ref (adK w0))] := hl
  have hown : s.vm.findClass RX8 = some m.cls := hown
  have hS : va_S ms_N s.heap s.heap [] := va_S.rf
  refine lv_aload_n hx hb dX8_isWord_0 rfl (lv_at hl 0 rfl) ?_
  refine va_get (D := G) (ci := 8) (v := .int F_behind) (C := RX8) (T := TX8) (N := 8) hx hb hts hkX8_isWord_X8 hown hK hP 0 rfl rfl 3 (by decide) (hts (.fieldLink RX8 22 "NestReaders$Text" "behind" "I") hfX8_isWord_22) (fun _ h9 => h9) rfl dX8_isWord_1 ?_
  refine lv_aload_n hx hb dX8_isWord_4 rfl (lv_at hl 0 rfl) ?_
  refine va_get (D := G) (ci := 8) (v := .int F_start) (C := RX8) (T := TX8) (N := 8) hx hb hts hkX8_isWord_X8 hown hK hP 0 rfl rfl 2 (by decide) (hts (.fieldLink RX8 19 "NestReaders$Text" "start" "I") hfX8_isWord_19) (fun _ h9 => h9) rfl dX8_isWord_5 ?_
  refine lv_isub hx hb dX8_isWord_8 ?_
  refine lv_aload_n hx hb dX8_isWord_9 rfl (lv_at hl 1 rfl) ?_
  refine ms_gi (va_runV (As := []) (rest := [.int (F_behind - F_start)]) ⟨hx, hb, hml, hown, hts⟩ (c_J0_length_8abf5 l G cI cJ cZ adK adV qB w0 hw0) (cwV 0 hts gX8_isWord_J0_length_8abf5 rfl rfl rfl nd_J0_length_8abf5 ⟨Nat.le_of_ble_eq_true rfl, Nat.le_of_ble_eq_true rfl⟩) ⟨ms_Xb ms_Pb ms_K.blind, vk_recv hX.2.1 hw0 hS, fun U hU hW => ⟨⟨rfl, ms_nilP, va_K.moved hW.alike hK, ms_nilD⟩, hX.go hS (fun _ h => h.elim) hU hW⟩⟩ rfl rfl hl.1 rfl (lv_room (Nat.le_of_ble_eq_true rfl)) dX8_isWord_10 ⟨Nat.zero_le _, Nat.zero_le _⟩) (fun r1 er1 => ?_)
  have hw := hw r1 er1
  have hw := hw (fun s21_0 => ∀ ls : Array Slot, lv_has ls 4 [(0, .ref q_t), (1, .ref (adK w0))] → W p l e rmX8_isWord s m args below meth c s.heap [] 0 0 Q (F0 m 21 ls [.int s21_0])) (fun s21_0 hw ls hl => by
    refine lv_istore_n (lv' := [(2, .int s21_0), (0, .ref q_t), (1, .ref (adK w0))]) hx hb dX8_isWord_21 rfl hl (by decide) rfl (fun ls hl => ?_)
    refine lv_iconst (v := 0) hx hb dX8_isWord_22 (by decide) ?_
    refine lv_istore_n (lv' := [(3, .int (0 : Int32)), (2, .int s21_0), (0, .ref q_t), (1, .ref (adK w0))]) hx hb dX8_isWord_23 rfl hl (by decide) rfl (fun ls hl => ?_)
    have hw := hw (fun i24_2 i24_3 => ∀ ls : Array Slot, lv_has ls 4 [(2, .int i24_2)] → W p l e rmX8_isWord s m args below meth c s.heap [] 0 0 Q (F0 m 66 ls [])) (fun i24_2 i24_3 hw ls hl => by
      refine lv_iload_n hx hb dX8_isWord_66 rfl (lv_at hl 0 rfl) ?_
      have zz2 := hw.1
      have hw := hw.2
      exact hRet i24_2 _ _ ⟨zz2, hw⟩ zz2 dX8_isWord_67
      )
    refine hw (fun i24_2 i24_3 => ∀ ls : Array Slot, lv_has ls 4 [(0, .ref q_t), (1, .ref (adK w0)), (2, .int i24_2), (3, .int i24_3)] → W p l e rmX8_isWord s m args below meth c s.heap [] 0 0 Q (F0 m 24 ls [])) (fun i24_2 i24_3 hw ls hl => ?_) ls (lv_sub hl [2, 3, 1, 0] rfl)
    refine lv_iload_n hx hb dX8_isWord_24 rfl (lv_at hl 2 rfl) ?_
    refine lv_if_eq (tgt := 66) hx hb dX8_isWord_25 (by decide) (fun c3 => ?_) (fun c3 => ?_)
    · have hw := hw.1 c3
      exact hw ls (lv_sub hl [2] rfl)
    · have hw := hw.2 c3
      refine lv_iload_n hx hb dX8_isWord_28 rfl (lv_at hl 3 rfl) ?_
      refine lv_aload_n hx hb dX8_isWord_29 rfl (lv_at hl 1 rfl) ?_
      refine ms_gi (va_runV (As := []) (rest := [.int i24_3]) ⟨hx, hb, hml, hown, hts⟩ (c_J0_length_8abf5 l G cI cJ cZ adK adV qB w0 hw0) (cwV 0 hts gX8_isWord_J0_length_8abf5 rfl rfl rfl nd_J0_length_8abf5 ⟨Nat.le_of_ble_eq_true rfl, Nat.le_of_ble_eq_true rfl⟩) ⟨ms_Xb ms_Pb ms_K.blind, vk_recv hX.2.1 hw0 hS, fun U hU hW => ⟨⟨rfl, ms_nilP, va_K.moved hW.alike hK, ms_nilD⟩, hX.go hS (fun _ h => h.elim) hU hW⟩⟩ rfl rfl hl.1 rfl (lv_room (Nat.le_of_ble_eq_true rfl)) dX8_isWord_30 ⟨Nat.zero_le _, Nat.zero_le _⟩) (fun r4 er4 => ?_)
      have hw := hw r4 er4
      refine lv_icmp_ge (tgt := 66) hx hb dX8_isWord_33 (by decide) (fun c5 => ?_) (fun c5 => ?_)
      · have hw := hw.1 c5
        exact hw ls (lv_sub hl [2] rfl)
      · have hw := hw.2 c5
        refine lv_aload_n hx hb dX8_isWord_36 rfl (lv_at hl 0 rfl) ?_
        refine lv_aload_n hx hb dX8_isWord_37 rfl (lv_at hl 0 rfl) ?_
        refine va_get (D := G) (ci := 8) (v := .int F_start) (C := RX8) (T := TX8) (N := 8) hx hb hts hkX8_isWord_X8 hown hK hP 0 rfl rfl 2 (by decide) (hts (.fieldLink RX8 19 "NestReaders$Text" "start" "I") hfX8_isWord_19) (fun _ h9 => h9) rfl dX8_isWord_38 ?_
        refine lv_iload_n hx hb dX8_isWord_41 rfl (lv_at hl 3 rfl) ?_
        refine lv_iadd hx hb dX8_isWord_42 ?_
        refine ms_cVi ⟨hx, hb, hml, hown, hts⟩ hK hP hD (c_X8_byteAt l G cI cJ cZ q_t q_t_bytes F_size F_start F_behind F_from F_letter F_mark F_to A_bytes (F_start + i24_3) hw) gX8_isWord_X8_byteAt rfl nd_X8_byteAt (ci := 8) rfl rfl rfl ⟨rfl, rfl⟩ rfl ⟨Nat.le_of_ble_eq_true rfl, Nat.le_of_ble_eq_true rfl⟩ hl.1 (rest := []) rfl (Nat.le_of_ble_eq_true rfl)  [0, 1] rfl rfl dX8_isWord_43 (fun r6 hw => ?_)
        refine lv_aload_n hx hb dX8_isWord_46 rfl (lv_at hl 1 rfl) ?_
        refine lv_iload_n hx hb dX8_isWord_47 rfl (lv_at hl 3 rfl) ?_
        refine ms_gi (va_runV (As := [.int i24_3]) (rest := [.int r6]) ⟨hx, hb, hml, hown, hts⟩ (c_J0_charAt_5068e l G cI cJ cZ adK adV qB w0 hw0 i24_3 hw.1) (cwV 1 hts gX8_isWord_J0_charAt_5068e rfl rfl rfl nd_J0_charAt_5068e ⟨Nat.le_of_ble_eq_true rfl, Nat.le_of_ble_eq_true rfl⟩) ⟨ms_Xb ms_Pb ms_K.blind, vk_recv hX.2.1 hw0 hS, fun U hU hW => ⟨⟨rfl, ms_nilP, va_K.moved hW.alike hK, ms_nilD⟩, hX.go hS (fun _ h => h.elim) hU hW⟩⟩ rfl rfl hl.1 rfl (lv_room (Nat.le_of_ble_eq_true rfl)) dX8_isWord_48 ⟨Nat.zero_le _, Nat.zero_le _⟩) (fun r7 er7 => ?_)
        have hw := hw.2 r7 er7
        refine lv_icmp_ne (tgt := 58) hx hb dX8_isWord_51 (by decide) (fun c8 => ?_) (fun c8 => ?_)
        · have hw := hw.2 c8
          refine lv_iconst (v := 0) hx hb dX8_isWord_58 (by decide) ?_
          refine lv_istore_n (lv' := [(2, .int (0 : Int32)), (0, .ref q_t), (1, .ref (adK w0)), (3, .int i24_3)]) hx hb dX8_isWord_59 rfl hl (by decide) rfl (fun ls hl => ?_)
          obtain ⟨x9, ex9⟩ : ∃ y : Int32, y = i24_3 + (1 : Int32) := ⟨_, rfl⟩
          have hw := hw x9 ex9
          refine lv_iinc (v := x9) (lv' := [(3, .int x9), (2, .int (0 : Int32)), (0, .ref q_t), (1, .ref (adK w0))]) hx hb dX8_isWord_60 hl (k := 3) rfl (by rw [ex9]; rfl) (by decide) rfl (fun ls hl => ?_)
          refine lv_goto (tgt := 24) hx hb dX8_isWord_63 (by decide) ?_
          exact hw ls (lv_sub hl [2, 3, 1, 0] rfl)
        · have hw := hw.1 c8
          refine lv_iconst (v := 1) hx hb dX8_isWord_54 (by decide) ?_
          refine lv_goto (tgt := 59) hx hb dX8_isWord_55 (by decide) ?_
          refine lv_istore_n (lv' := [(2, .int (1 : Int32)), (0, .ref q_t), (1, .ref (adK w0)), (3, .int i24_3)]) hx hb dX8_isWord_59 rfl hl (by decide) rfl (fun ls hl => ?_)
          obtain ⟨x10, ex10⟩ : ∃ y : Int32, y = i24_3 + (1 : Int32) := ⟨_, rfl⟩
          have hw := hw x10 ex10
          refine lv_iinc (v := x10) (lv' := [(3, .int x10), (2, .int (1 : Int32)), (0, .ref q_t), (1, .ref (adK w0))]) hx hb dX8_isWord_60 hl (k := 3) rfl (by rw [ex10]; rfl) (by decide) rfl (fun ls hl => ?_)
          refine lv_goto (tgt := 24) hx hb dX8_isWord_63 (by decide) ?_
          exact hw ls (lv_sub hl [2, 3, 1, 0] rfl)
    )
  refine lv_icmp_ne (tgt := 20) hx hb dX8_isWord_13 (by decide) (fun c11 => ?_) (fun c11 => ?_)
  · have hw := hw.2 c11
    refine lv_iconst (v := 0) hx hb dX8_isWord_20 (by decide) ?_
    exact hw ls (lv_sub hl [0, 1] rfl)
  · have hw := hw.1 c11
    refine lv_iconst (v := 1) hx hb dX8_isWord_16 (by decide) ?_
    refine lv_goto (tgt := 21) hx hb dX8_isWord_17 (by decide) ?_
    exact hw ls (lv_sub hl [0, 1] rfl)
def wX8_pass (p0 : Int32) (F_size : Int32) (F_start : Int32) (F_behind : Int32) (A_bytes : Nat → Int32) (K : Int32 → Int32 → Int32 → Prop) : Prop :=
  ((p0 = (0 : Int32) → (ms_z p0 ∧ K p0 F_start F_behind)) ∧ (¬ p0 = (0 : Int32) → (wX8_step F_size F_start F_behind A_bytes (fun u3 u4 => (ms_z p0 ∧ K p0 u3 u4)))))
abbrev rmX8_pass : Room := { frames := 2, cells := 0, slots := 0, locals := 42 }
theorem nd_X8_pass : yX8_pass.cls = RX8 ∧ yX8_pass.cls ≠ "java/lang/invoke/MethodHandle" ∧ yX8_pass.cls ≠ "java/lang/invoke/VarHandle" ∧ (parseMethodDescriptor yX8_pass.desc).map (fun d => d.parameters.length) = some 1 := by decide +kernel
set_option maxHeartbeats 4000000 in
set_option maxRecDepth 100000 in
theorem c_X8_pass (l : Launch) (G : va_G) (cI cJ cZ : ClassId) (q_t q_t_bytes : Nat) (sz : Nat) (F_size : Int32) (F_start : Int32) (F_behind : Int32) (F_from : Int32) (F_letter : Int32) (F_mark : Int32) (F_to : Int32) (A_bytes : Nat → Int32) (p0 : Int32) {K : Int32 → Int32 → Int32 → Prop} (hw : wX8_pass p0 F_size F_start F_behind A_bytes K) : Met l yX8_pass wsX8_pass rmX8_pass (ms_Pz G (ms_T cI cJ cZ) [(q_t, .inr (8, [.ref q_t_bytes, .int F_size, .int F_start, .int F_behind, .int F_from, .int F_letter, .int F_mark, .int F_to])), (q_t_bytes, .inl (cI, 160, .inl A_bytes))] sz [.ref q_t, .int p0]) (ms_Wi G (ms_T cI cJ cZ) (fun (r : Int32) (u : Int32 × Int32) => ms_z r ∧ K r u.1 u.2) (fun u : Int32 × Int32 => [(q_t, .inr (8, [.ref q_t_bytes, .int F_size, .int u.1, .int u.2, .int F_from, .int F_letter, .int F_mark, .int F_to])), (q_t_bytes, .inl (cI, 160, .inl A_bytes))]) (va_A [(q_t, .inr (8, [.ref q_t_bytes, .int F_size, .int F_start, .int F_behind, .int F_from, .int F_letter, .int F_mark, .int F_to])), (q_t_bytes, .inl (cI, 160, .inl A_bytes))] sz)) 0 0 (va_A [(q_t, .inr (8, [.ref q_t_bytes, .int F_size, .int F_start, .int F_behind, .int F_from, .int F_letter, .int F_mark, .int F_to])), (q_t_bytes, .inl (cI, 160, .inl A_bytes))] sz) := by
  refine ms_ti (cc := cX8_pass) (maxL := 2) (ty := .boolean) (by decide) rfl (Nat.le_of_ble_eq_true rfl) ?_
  intro p e s m args below meth c Q A hx hb hml hown hts hK hP hD hS hA hRet ls hl
  have hl : lv_has ls 2 [(0, .ref q_t), (1, .int p0)] := hl
  have hown : s.vm.findClass RX8 = some m.cls := hown
  refine lv_iload_n hx hb dX8_pass_0 rfl (lv_at hl 1 rfl) ?_
  refine lv_if_eq (tgt := 8) hx hb dX8_pass_1 (by decide) (fun c1 => ?_) (fun c1 => ?_)
  · have hw := hw.1 c1
    refine lv_iload_n hx hb dX8_pass_8 rfl (lv_at hl 1 rfl) ?_
    have zz2 := hw.1
    have hw := hw.2
    exact hRet p0 ⟨F_start, F_behind⟩ s.heap [] _ _ ⟨zz2, hw⟩ zz2 hP hD hS dX8_pass_9
  · have hw := hw.2 c1
    refine lv_aload_n hx hb dX8_pass_4 rfl (lv_at hl 0 rfl) ?_
    refine ms_mVv (wr := []) ⟨hx, hb, hml, hown, hts⟩ hK hP hD (c_X8_step l G cI cJ cZ q_t q_t_bytes s.heap.size F_size F_start F_behind F_from F_letter F_mark F_to A_bytes hw) gX8_pass_X8_step rfl nd_X8_step (ci := 8) rfl rfl rfl ⟨rfl, rfl⟩ rfl ⟨Nat.le_of_ble_eq_true rfl, Nat.le_of_ble_eq_true rfl⟩ hl.1 (rest := []) rfl (Nat.le_of_ble_eq_true rfl)  hS hA [0, 1] [] rfl rfl rfl (by decide) rfl dX8_pass_5 (fun u H locs hw hP hD hS => ?_)
    obtain ⟨u3, u4⟩ := u
    obtain ⟨hP, hD⟩ : ms_PD G A [(q_t, .inr (8, [.ref q_t_bytes, .int F_size, .int u3, .int u4, .int F_from, .int F_letter, .int F_mark, .int F_to])), (q_t_bytes, .inl (cI, 160, .inl A_bytes))] H := ms_PDsub hP hD [0, 1] (by decide +kernel) rfl
    refine lv_iload_n hx hb dX8_pass_8 rfl (lv_at hl 1 rfl) ?_
    have zz5 := hw.1
    have hw := hw.2
    exact hRet p0 ⟨u3, u4⟩ H locs _ _ ⟨zz5, hw⟩ zz5 hP hD hS dX8_pass_9
def wX8_readMark (p1 : Int32) (F_size : Int32) (F_start : Int32) (F_behind : Int32) (F_mark : Int32) (A_bytes : Nat → Int32) (F_p0_marks : Int32) (K : Int32 → Int32 → Int32 → Int32 → Prop) : Prop :=
  ((p1 = (0 : Int32) → (wX8_digit F_size F_start F_behind A_bytes (fun r2 => (wX5_isMark r2 F_p0_marks (fun r3 => (wX8_pass r3 F_size F_start F_behind A_bytes (fun r4 u5 u6 => K r4 u5 u6 r2))))))) ∧ (¬ p1 = (0 : Int32) → (wX8_isWord 1 F_size F_start F_behind A_bytes (fun r7 => ((r7 = (0 : Int32) → (wX8_digit F_size F_start F_behind A_bytes (fun r9 => (wX5_isMark r9 F_p0_marks (fun r10 => (wX8_pass r10 F_size F_start F_behind A_bytes (fun r11 u12 u13 => K r11 u12 u13 r9))))))) ∧ (¬ r7 = (0 : Int32) → (wX8_pass (1 : Int32) F_size F_start F_behind A_bytes (fun r14 u15 u16 => K r14 u15 u16 (-1 : Int32)))))))))
abbrev rmX8_readMark : Room := { frames := 5, cells := 0, slots := 0, locals := 108 }
theorem nd_X8_readMark : yX8_readMark.cls = RX8 ∧ yX8_readMark.cls ≠ "java/lang/invoke/MethodHandle" ∧ yX8_readMark.cls ≠ "java/lang/invoke/VarHandle" ∧ (parseMethodDescriptor yX8_readMark.desc).map (fun d => d.parameters.length) = some 2 := by decide +kernel
theorem hkX8_readMark_X8 : ∀ w ∈ u_ws RX8 TX8 8, w ∈ wsX8_readMark := fun w h => List.mem_cons_of_mem _ (inlX8 w h)
theorem hfX8_readMark_31 : (Cond.fieldLink RX8 31 "NestReaders$Text" "mark" "I") ∈ wsX8_readMark := List.mem_cons_of_mem _ m4_5
set_option maxHeartbeats 4000000 in
set_option maxRecDepth 100000 in
theorem c_X8_readMark (l : Launch) (G : va_G) (cI cJ cZ : ClassId) (adK adV : Nat → Nat) (qB : Nat) (q_t q_t_bytes q_p0 q_p0_ways : Nat) (sz : Nat) (F_size : Int32) (F_start : Int32) (F_behind : Int32) (F_from : Int32) (F_letter : Int32) (F_mark : Int32) (F_to : Int32) (A_bytes : Nat → Int32) (F_p0_states : Int32) (F_p0_marks : Int32) (F_p0_takes : Int32) (F_p0_changes : Int32) (p1 : Int32) {K : Int32 → Int32 → Int32 → Int32 → Prop} (hw : wX8_readMark p1 F_size F_start F_behind F_mark A_bytes F_p0_marks K) : Met l yX8_readMark wsX8_readMark rmX8_readMark (ms_X (ms_K adK adV qB (va_A [(q_t, .inr (8, [.ref q_t_bytes, .int F_size, .int F_start, .int F_behind, .int F_from, .int F_letter, .int F_mark, .int F_to])), (q_t_bytes, .inl (cI, 160, .inl A_bytes)), (q_p0, .inr (5, [.ref q_p0_ways, .int F_p0_states, .int F_p0_marks, .int F_p0_takes, .int F_p0_changes]))] sz)) (ms_Pz G (ms_T cI cJ cZ) [(q_t, .inr (8, [.ref q_t_bytes, .int F_size, .int F_start, .int F_behind, .int F_from, .int F_letter, .int F_mark, .int F_to])), (q_t_bytes, .inl (cI, 160, .inl A_bytes)), (q_p0, .inr (5, [.ref q_p0_ways, .int F_p0_states, .int F_p0_marks, .int F_p0_takes, .int F_p0_changes]))] sz [.ref q_t, .ref q_p0, .int p1])) (ms_Wi G (ms_T cI cJ cZ) (fun (r : Int32) (u : Int32 × Int32 × Int32) => ms_z r ∧ K r u.1 u.2.1 u.2.2) (fun u : Int32 × Int32 × Int32 => [(q_t, .inr (8, [.ref q_t_bytes, .int F_size, .int u.1, .int u.2.1, .int F_from, .int F_letter, .int u.2.2, .int F_to])), (q_t_bytes, .inl (cI, 160, .inl A_bytes)), (q_p0, .inr (5, [.ref q_p0_ways, .int F_p0_states, .int F_p0_marks, .int F_p0_takes, .int F_p0_changes]))]) (va_A [(q_t, .inr (8, [.ref q_t_bytes, .int F_size, .int F_start, .int F_behind, .int F_from, .int F_letter, .int F_mark, .int F_to])), (q_t_bytes, .inl (cI, 160, .inl A_bytes)), (q_p0, .inr (5, [.ref q_p0_ways, .int F_p0_states, .int F_p0_marks, .int F_p0_takes, .int F_p0_changes]))] sz)) 0 0 (va_A [(q_t, .inr (8, [.ref q_t_bytes, .int F_size, .int F_start, .int F_behind, .int F_from, .int F_letter, .int F_mark, .int F_to])), (q_t_bytes, .inl (cI, 160, .inl A_bytes)), (q_p0, .inr (5, [.ref q_p0_ways, .int F_p0_states, .int F_p0_marks, .int F_p0_takes, .int F_p0_changes]))] sz) := by
  refine ms_tXi (cc := cX8_readMark) (maxL := 3) (ty := .boolean) (by decide) rfl (Nat.le_of_ble_eq_true rfl) ?_
  intro p e s m args below meth c Q A hx hb hml hown hts hK hP hD hS hA hAi hsz hX hRet ls hl
  have hl : lv_has ls 3 [(0, .ref q_t), (1, .ref q_p0), (2, .int p1)] := hl
  have hown : s.vm.findClass RX8 = some m.cls := hown
  have hX : ms_K adK adV qB A s := hX.narrow (fun q h => by rw [← hsz]; exact (hAi q).mp h)
  refine lv_iload_n hx hb dX8_readMark_0 rfl (lv_at hl 2 rfl) ?_
  refine lv_if_eq (tgt := 24) hx hb dX8_readMark_1 (by decide) (fun c1 => ?_) (fun c1 => ?_)
  · have hw := hw.1 c1
    refine lv_aload_n hx hb dX8_readMark_24 rfl (lv_at hl 0 rfl) ?_
    refine lv_aload_n hx hb dX8_readMark_25 rfl (lv_at hl 0 rfl) ?_
    refine ms_cVi ⟨hx, hb, hml, hown, hts⟩ hK hP hD (c_X8_digit l G cI cJ cZ q_t q_t_bytes F_size F_start F_behind F_from F_letter F_mark F_to A_bytes hw) gX8_readMark_X8_digit rfl nd_X8_digit (ci := 8) rfl rfl rfl ⟨rfl, rfl⟩ rfl ⟨Nat.le_of_ble_eq_true rfl, Nat.le_of_ble_eq_true rfl⟩ hl.1 (rest := [.ref q_t]) rfl (Nat.le_of_ble_eq_true rfl)  [0, 1] rfl rfl dX8_readMark_26 (fun r2 hw => ?_)
    refine va_put (D := G) (ci := 8) (v := .int r2) (ty := .int) (C := RX8) (T := TX8) (N := 8) hx hb hts hkX8_readMark_X8 tyX8 tyX8_ok nmX8 hown hK hP hD hS 0 rfl rfl 6 (by decide) (hts (.fieldLink RX8 31 "NestReaders$Text" "mark" "I") hfX8_readMark_31) (fun _ h9 => h9) rfl (by decide +kernel) rfl rfl (Nat.le_of_ble_eq_true rfl) dX8_readMark_29 (fun H locs hP hD hS => ?_)
    have hP : va_P G vwCl [(q_t, .inr (8, [.ref q_t_bytes, .int F_size, .int F_start, .int F_behind, .int F_from, .int F_letter, .int r2, .int F_to])), (q_t_bytes, .inl (cI, 160, .inl A_bytes)), (q_p0, .inr (5, [.ref q_p0_ways, .int F_p0_states, .int F_p0_marks, .int F_p0_takes, .int F_p0_changes]))] H := hP
    have hD : va_D A [(q_t, .inr (8, [.ref q_t_bytes, .int F_size, .int F_start, .int F_behind, .int F_from, .int F_letter, .int r2, .int F_to])), (q_t_bytes, .inl (cI, 160, .inl A_bytes)), (q_p0, .inr (5, [.ref q_p0_ways, .int F_p0_states, .int F_p0_marks, .int F_p0_takes, .int F_p0_changes]))] := hD
    refine lv_aload_n hx hb dX8_readMark_32 rfl (lv_at hl 0 rfl) ?_
    refine lv_aload_n hx hb dX8_readMark_33 rfl (lv_at hl 1 rfl) ?_
    refine lv_aload_n hx hb dX8_readMark_34 rfl (lv_at hl 0 rfl) ?_
    refine va_get (D := G) (ci := 8) (v := .int r2) (C := RX8) (T := TX8) (N := 8) hx hb hts hkX8_readMark_X8 hown hK hP 0 rfl rfl 6 (by decide) (hts (.fieldLink RX8 31 "NestReaders$Text" "mark" "I") hfX8_readMark_31) (fun _ h9 => h9) rfl dX8_readMark_35 ?_
    refine ms_cVi ⟨hx, hb, hml, hown, hts⟩ hK hP hD (c_X5_isMark l G cI cJ cZ q_p0 q_p0_ways F_p0_states F_p0_marks F_p0_takes F_p0_changes r2 hw) gX8_readMark_X5_isMark rfl nd_X5_isMark (ci := 5) rfl rfl rfl ⟨rfl, rfl⟩ rfl ⟨Nat.le_of_ble_eq_true rfl, Nat.le_of_ble_eq_true rfl⟩ hl.1 (rest := [.ref q_t]) rfl (Nat.le_of_ble_eq_true rfl)  [2] rfl rfl dX8_readMark_38 (fun r3 hw => ?_)
    have zzr3 := hw.1
    have hw := hw.2
    refine ms_mVi (wr := [(q_p0, .inr (5, [.ref q_p0_ways, .int F_p0_states, .int F_p0_marks, .int F_p0_takes, .int F_p0_changes]))]) ⟨hx, hb, hml, hown, hts⟩ hK hP hD (c_X8_pass l G cI cJ cZ q_t q_t_bytes H.size F_size F_start F_behind F_from F_letter r2 F_to A_bytes r3 hw) gX8_readMark_X8_pass rfl nd_X8_pass (ci := 8) rfl rfl rfl ⟨rfl, rfl⟩ rfl ⟨Nat.le_of_ble_eq_true rfl, Nat.le_of_ble_eq_true rfl⟩ hl.1 (rest := []) rfl (Nat.le_of_ble_eq_true rfl)  hS hA [0, 1] [2] rfl rfl rfl (by decide) rfl dX8_readMark_41 (fun r4 u H locs hw hP hD hS => ?_)
    obtain ⟨u5, u6⟩ := u
    have zzr4 := hw.1
    have hw := hw.2
    obtain ⟨hP, hD⟩ : ms_PD G A [(q_t, .inr (8, [.ref q_t_bytes, .int F_size, .int u5, .int u6, .int F_from, .int F_letter, .int r2, .int F_to])), (q_t_bytes, .inl (cI, 160, .inl A_bytes)), (q_p0, .inr (5, [.ref q_p0_ways, .int F_p0_states, .int F_p0_marks, .int F_p0_takes, .int F_p0_changes]))] H := ms_PDsub hP hD [1, 2, 0] (by decide +kernel) rfl
    exact hRet r4 ⟨u5, u6, r2⟩ H locs _ _ ⟨zzr4, hw⟩ zzr4 hP hD hS dX8_readMark_44
  · have hw := hw.2 c1
    refine lv_aload_n hx hb dX8_readMark_4 rfl (lv_at hl 0 rfl) ?_
    refine va_ldcS hx hb hown hX.2.2.2.2.2.2.1 dX8_readMark_5 ?_
    refine ms_cXVi ms_K.blind (fun U hU hW => hX.go hS (fun _ h => h.elim) hU hW) ⟨hx, hb, hml, hown, hts⟩ hK hP hD (c_X8_isWord l G cI cJ cZ adK adV qB q_t q_t_bytes F_size F_start F_behind F_from F_letter F_mark F_to A_bytes 1 (by decide) hw) gX8_readMark_X8_isWord rfl nd_X8_isWord (ci := 8) rfl rfl rfl ⟨rfl, rfl⟩ rfl ⟨Nat.le_of_ble_eq_true rfl, Nat.le_of_ble_eq_true rfl⟩ hl.1 (rest := []) rfl (Nat.le_of_ble_eq_true rfl)  [0, 1] rfl rfl dX8_readMark_7 (fun r7 hw => ?_)
    have zzr7 := hw.1
    have hw := hw.2
    refine lv_if_eq (tgt := 24) hx hb dX8_readMark_10 (by decide) (fun c8 => ?_) (fun c8 => ?_)
    · have hw := hw.1 c8
      refine lv_aload_n hx hb dX8_readMark_24 rfl (lv_at hl 0 rfl) ?_
      refine lv_aload_n hx hb dX8_readMark_25 rfl (lv_at hl 0 rfl) ?_
      refine ms_cVi ⟨hx, hb, hml, hown, hts⟩ hK hP hD (c_X8_digit l G cI cJ cZ q_t q_t_bytes F_size F_start F_behind F_from F_letter F_mark F_to A_bytes hw) gX8_readMark_X8_digit rfl nd_X8_digit (ci := 8) rfl rfl rfl ⟨rfl, rfl⟩ rfl ⟨Nat.le_of_ble_eq_true rfl, Nat.le_of_ble_eq_true rfl⟩ hl.1 (rest := [.ref q_t]) rfl (Nat.le_of_ble_eq_true rfl)  [0, 1] rfl rfl dX8_readMark_26 (fun r9 hw => ?_)
      refine va_put (D := G) (ci := 8) (v := .int r9) (ty := .int) (C := RX8) (T := TX8) (N := 8) hx hb hts hkX8_readMark_X8 tyX8 tyX8_ok nmX8 hown hK hP hD hS 0 rfl rfl 6 (by decide) (hts (.fieldLink RX8 31 "NestReaders$Text" "mark" "I") hfX8_readMark_31) (fun _ h9 => h9) rfl (by decide +kernel) rfl rfl (Nat.le_of_ble_eq_true rfl) dX8_readMark_29 (fun H locs hP hD hS => ?_)
      have hP : va_P G vwCl [(q_t, .inr (8, [.ref q_t_bytes, .int F_size, .int F_start, .int F_behind, .int F_from, .int F_letter, .int r9, .int F_to])), (q_t_bytes, .inl (cI, 160, .inl A_bytes)), (q_p0, .inr (5, [.ref q_p0_ways, .int F_p0_states, .int F_p0_marks, .int F_p0_takes, .int F_p0_changes]))] H := hP
      have hD : va_D A [(q_t, .inr (8, [.ref q_t_bytes, .int F_size, .int F_start, .int F_behind, .int F_from, .int F_letter, .int r9, .int F_to])), (q_t_bytes, .inl (cI, 160, .inl A_bytes)), (q_p0, .inr (5, [.ref q_p0_ways, .int F_p0_states, .int F_p0_marks, .int F_p0_takes, .int F_p0_changes]))] := hD
      refine lv_aload_n hx hb dX8_readMark_32 rfl (lv_at hl 0 rfl) ?_
      refine lv_aload_n hx hb dX8_readMark_33 rfl (lv_at hl 1 rfl) ?_
      refine lv_aload_n hx hb dX8_readMark_34 rfl (lv_at hl 0 rfl) ?_
      refine va_get (D := G) (ci := 8) (v := .int r9) (C := RX8) (T := TX8) (N := 8) hx hb hts hkX8_readMark_X8 hown hK hP 0 rfl rfl 6 (by decide) (hts (.fieldLink RX8 31 "NestReaders$Text" "mark" "I") hfX8_readMark_31) (fun _ h9 => h9) rfl dX8_readMark_35 ?_
      refine ms_cVi ⟨hx, hb, hml, hown, hts⟩ hK hP hD (c_X5_isMark l G cI cJ cZ q_p0 q_p0_ways F_p0_states F_p0_marks F_p0_takes F_p0_changes r9 hw) gX8_readMark_X5_isMark rfl nd_X5_isMark (ci := 5) rfl rfl rfl ⟨rfl, rfl⟩ rfl ⟨Nat.le_of_ble_eq_true rfl, Nat.le_of_ble_eq_true rfl⟩ hl.1 (rest := [.ref q_t]) rfl (Nat.le_of_ble_eq_true rfl)  [2] rfl rfl dX8_readMark_38 (fun r10 hw => ?_)
      have zzr10 := hw.1
      have hw := hw.2
      refine ms_mVi (wr := [(q_p0, .inr (5, [.ref q_p0_ways, .int F_p0_states, .int F_p0_marks, .int F_p0_takes, .int F_p0_changes]))]) ⟨hx, hb, hml, hown, hts⟩ hK hP hD (c_X8_pass l G cI cJ cZ q_t q_t_bytes H.size F_size F_start F_behind F_from F_letter r9 F_to A_bytes r10 hw) gX8_readMark_X8_pass rfl nd_X8_pass (ci := 8) rfl rfl rfl ⟨rfl, rfl⟩ rfl ⟨Nat.le_of_ble_eq_true rfl, Nat.le_of_ble_eq_true rfl⟩ hl.1 (rest := []) rfl (Nat.le_of_ble_eq_true rfl)  hS hA [0, 1] [2] rfl rfl rfl (by decide) rfl dX8_readMark_41 (fun r11 u H locs hw hP hD hS => ?_)
      obtain ⟨u12, u13⟩ := u
      have zzr11 := hw.1
      have hw := hw.2
      obtain ⟨hP, hD⟩ : ms_PD G A [(q_t, .inr (8, [.ref q_t_bytes, .int F_size, .int u12, .int u13, .int F_from, .int F_letter, .int r9, .int F_to])), (q_t_bytes, .inl (cI, 160, .inl A_bytes)), (q_p0, .inr (5, [.ref q_p0_ways, .int F_p0_states, .int F_p0_marks, .int F_p0_takes, .int F_p0_changes]))] H := ms_PDsub hP hD [1, 2, 0] (by decide +kernel) rfl
      exact hRet r11 ⟨u12, u13, r9⟩ H locs _ _ ⟨zzr11, hw⟩ zzr11 hP hD hS dX8_readMark_44
    · have hw := hw.2 c8
      refine lv_aload_n hx hb dX8_readMark_13 rfl (lv_at hl 0 rfl) ?_
      refine lv_iconst (v := (-1)) hx hb dX8_readMark_14 (by decide) ?_
      refine va_put (D := G) (ci := 8) (v := .int (-1 : Int32)) (ty := .int) (C := RX8) (T := TX8) (N := 8) hx hb hts hkX8_readMark_X8 tyX8 tyX8_ok nmX8 hown hK hP hD hS 0 rfl rfl 6 (by decide) (hts (.fieldLink RX8 31 "NestReaders$Text" "mark" "I") hfX8_readMark_31) (fun _ h9 => h9) rfl (by decide +kernel) rfl rfl (Nat.le_of_ble_eq_true rfl) dX8_readMark_15 (fun H locs hP hD hS => ?_)
      have hP : va_P G vwCl [(q_t, .inr (8, [.ref q_t_bytes, .int F_size, .int F_start, .int F_behind, .int F_from, .int F_letter, .int (-1 : Int32), .int F_to])), (q_t_bytes, .inl (cI, 160, .inl A_bytes)), (q_p0, .inr (5, [.ref q_p0_ways, .int F_p0_states, .int F_p0_marks, .int F_p0_takes, .int F_p0_changes]))] H := hP
      have hD : va_D A [(q_t, .inr (8, [.ref q_t_bytes, .int F_size, .int F_start, .int F_behind, .int F_from, .int F_letter, .int (-1 : Int32), .int F_to])), (q_t_bytes, .inl (cI, 160, .inl A_bytes)), (q_p0, .inr (5, [.ref q_p0_ways, .int F_p0_states, .int F_p0_marks, .int F_p0_takes, .int F_p0_changes]))] := hD
      refine lv_aload_n hx hb dX8_readMark_18 rfl (lv_at hl 0 rfl) ?_
      refine lv_iconst (v := 1) hx hb dX8_readMark_19 (by decide) ?_
      refine ms_mVi (wr := [(q_p0, .inr (5, [.ref q_p0_ways, .int F_p0_states, .int F_p0_marks, .int F_p0_takes, .int F_p0_changes]))]) ⟨hx, hb, hml, hown, hts⟩ hK hP hD (c_X8_pass l G cI cJ cZ q_t q_t_bytes H.size F_size F_start F_behind F_from F_letter (-1 : Int32) F_to A_bytes (1 : Int32) hw) gX8_readMark_X8_pass rfl nd_X8_pass (ci := 8) rfl rfl rfl ⟨rfl, rfl⟩ rfl ⟨Nat.le_of_ble_eq_true rfl, Nat.le_of_ble_eq_true rfl⟩ hl.1 (rest := []) rfl (Nat.le_of_ble_eq_true rfl)  hS hA [0, 1] [2] rfl rfl rfl (by decide) rfl dX8_readMark_20 (fun r14 u H locs hw hP hD hS => ?_)
      obtain ⟨u15, u16⟩ := u
      have zzr14 := hw.1
      have hw := hw.2
      obtain ⟨hP, hD⟩ : ms_PD G A [(q_t, .inr (8, [.ref q_t_bytes, .int F_size, .int u15, .int u16, .int F_from, .int F_letter, .int (-1 : Int32), .int F_to])), (q_t_bytes, .inl (cI, 160, .inl A_bytes)), (q_p0, .inr (5, [.ref q_p0_ways, .int F_p0_states, .int F_p0_marks, .int F_p0_takes, .int F_p0_changes]))] H := ms_PDsub hP hD [1, 2, 0] (by decide +kernel) rfl
      exact hRet r14 ⟨u15, u16, (-1 : Int32)⟩ H locs _ _ ⟨zzr14, hw⟩ zzr14 hP hD hS dX8_readMark_23
def wX8_readMove (F_size : Int32) (F_start : Int32) (F_behind : Int32) (F_from : Int32) (F_letter : Int32) (F_mark : Int32) (F_to : Int32) (A_bytes : Nat → Int32) (F_p0_states : Int32) (F_p0_marks : Int32) (K : Int32 → Int32 → Int32 → Int32 → Int32 → Int32 → Int32 → Prop) : Prop :=
  (wX8_digit F_size F_start F_behind A_bytes (fun r1 => (wX5_isState r1 F_p0_states (fun r2 => (wX8_pass r2 F_size F_start F_behind A_bytes (fun r3 u4 u5 => ((r3 = (0 : Int32) → K (0 : Int32) u4 u5 r1 F_letter F_mark F_to) ∧ (¬ r3 = (0 : Int32) → (wX8_head F_size u4 A_bytes (fun r7 => (∀ x8 : Int32, x8 = (r7 - (97 : Int32)) → (∀ J71 : Int32 → Prop, (∀ (s71_1 : Int32), (wX8_pass s71_1 F_size u4 u5 A_bytes (fun r9 u10 u11 => ((r9 = (0 : Int32) → K (0 : Int32) u10 u11 r1 x8 F_mark F_to) ∧ (¬ r9 = (0 : Int32) → (wX5_closes x8 (fun r13 => ((r13 = (0 : Int32) → (wX8_isWord 2 F_size u10 u11 A_bytes (fun r15 => (wX8_pass r15 F_size u10 u11 A_bytes (fun r16 u17 u18 => ((r16 = (0 : Int32) → K (0 : Int32) u17 u18 r1 x8 (0 : Int32) F_to) ∧ (¬ r16 = (0 : Int32) → (wX8_digit F_size u17 u18 A_bytes (fun r20 => (wX5_isState r20 F_p0_states (fun r21 => (wX8_pass r21 F_size u17 u18 A_bytes (fun r22 u23 u24 => ((r22 = (0 : Int32) → K (0 : Int32) u23 u24 r1 x8 (0 : Int32) r20) ∧ (¬ r22 = (0 : Int32) → (wX5_opens x8 (fun r26 => ((r26 = (0 : Int32) → K (1 : Int32) u23 u24 r1 x8 (0 : Int32) r20) ∧ (¬ r26 = (0 : Int32) → (wX8_isWord 3 F_size u23 u24 A_bytes (fun r28 => (wX8_pass r28 F_size u23 u24 A_bytes (fun r29 u30 u31 => ((r29 = (0 : Int32) → K (0 : Int32) u30 u31 r1 x8 (0 : Int32) r20) ∧ (¬ r29 = (0 : Int32) → (wX8_readMark (0 : Int32) F_size u30 u31 (0 : Int32) A_bytes F_p0_marks (fun r33 u34 u35 u36 => ((r33 = (0 : Int32) → K (0 : Int32) u34 u35 r1 x8 u36 r20) ∧ (¬ r33 = (0 : Int32) → K (1 : Int32) u34 u35 r1 x8 u36 r20))))))))))))))))))))))))))))) ∧ (¬ r13 = (0 : Int32) → (wX8_isWord 0 F_size u10 u11 A_bytes (fun r38 => (wX8_pass r38 F_size u10 u11 A_bytes (fun r39 u40 u41 => ((r39 = (0 : Int32) → K (0 : Int32) u40 u41 r1 x8 (0 : Int32) F_to) ∧ (¬ r39 = (0 : Int32) → (wX8_readMark (1 : Int32) F_size u40 u41 (0 : Int32) A_bytes F_p0_marks (fun r43 u44 u45 u46 => ((r43 = (0 : Int32) → K (0 : Int32) u44 u45 r1 x8 u46 F_to) ∧ (¬ r43 = (0 : Int32) → (wX8_isWord 2 F_size u44 u45 A_bytes (fun r48 => (wX8_pass r48 F_size u44 u45 A_bytes (fun r49 u50 u51 => ((r49 = (0 : Int32) → K (0 : Int32) u50 u51 r1 x8 u46 F_to) ∧ (¬ r49 = (0 : Int32) → (wX8_digit F_size u50 u51 A_bytes (fun r53 => (wX5_isState r53 F_p0_states (fun r54 => (wX8_pass r54 F_size u50 u51 A_bytes (fun r55 u56 u57 => ((r55 = (0 : Int32) → K (0 : Int32) u56 u57 r1 x8 u46 r53) ∧ (¬ r55 = (0 : Int32) → (wX5_opens x8 (fun r59 => ((r59 = (0 : Int32) → K (1 : Int32) u56 u57 r1 x8 u46 r53) ∧ (¬ r59 = (0 : Int32) → (wX8_isWord 3 F_size u56 u57 A_bytes (fun r61 => (wX8_pass r61 F_size u56 u57 A_bytes (fun r62 u63 u64 => ((r62 = (0 : Int32) → K (0 : Int32) u63 u64 r1 x8 u46 r53) ∧ (¬ r62 = (0 : Int32) → (wX8_readMark (0 : Int32) F_size u63 u64 u46 A_bytes F_p0_marks (fun r66 u67 u68 u69 => ((r66 = (0 : Int32) → K (0 : Int32) u67 u68 r1 x8 u69 r53) ∧ (¬ r66 = (0 : Int32) → K (1 : Int32) u67 u68 r1 x8 u69 r53)))))))))))))))))))))))))))))))))))))))))))))) → J71 s71_1) → (((u5 - u4) = (1 : Int32) → ((x8 < (0 : Int32) → J71 (0 : Int32)) ∧ (¬ x8 < (0 : Int32) → (((6 : Int32) ≤ x8 → J71 (0 : Int32)) ∧ (¬ (6 : Int32) ≤ x8 → J71 (1 : Int32)))))) ∧ (¬ (u5 - u4) = (1 : Int32) → J71 (0 : Int32)))))))))))))))
abbrev rmX8_readMove : Room := { frames := 6, cells := 0, slots := 0, locals := 130 }
theorem nd_X8_readMove : yX8_readMove.cls = RX8 ∧ yX8_readMove.cls ≠ "java/lang/invoke/MethodHandle" ∧ yX8_readMove.cls ≠ "java/lang/invoke/VarHandle" ∧ (parseMethodDescriptor yX8_readMove.desc).map (fun d => d.parameters.length) = some 1 := by decide +kernel
theorem hkX8_readMove_X8 : ∀ w ∈ u_ws RX8 TX8 8, w ∈ wsX8_readMove := fun w h => List.mem_cons_of_mem _ (inlX8 w h)
theorem hfX8_readMove_25 : (Cond.fieldLink RX8 25 "NestReaders$Text" "from" "I") ∈ wsX8_readMove := List.mem_cons_of_mem _ m4_3
theorem hfX8_readMove_28 : (Cond.fieldLink RX8 28 "NestReaders$Text" "letter" "I") ∈ wsX8_readMove := List.mem_cons_of_mem _ m4_4
theorem hfX8_readMove_22 : (Cond.fieldLink RX8 22 "NestReaders$Text" "behind" "I") ∈ wsX8_readMove := List.mem_cons_of_mem _ m4_2
theorem hfX8_readMove_19 : (Cond.fieldLink RX8 19 "NestReaders$Text" "start" "I") ∈ wsX8_readMove := List.mem_cons_of_mem _ m4_1
theorem hfX8_readMove_31 : (Cond.fieldLink RX8 31 "NestReaders$Text" "mark" "I") ∈ wsX8_readMove := List.mem_cons_of_mem _ m4_5
theorem hfX8_readMove_34 : (Cond.fieldLink RX8 34 "NestReaders$Text" "to" "I") ∈ wsX8_readMove := List.mem_cons_of_mem _ m4_6
set_option maxHeartbeats 4000000 in
set_option maxRecDepth 100000 in
theorem c_X8_readMove (l : Launch) (G : va_G) (cI cJ cZ : ClassId) (adK adV : Nat → Nat) (qB : Nat) (q_t q_t_bytes q_p0 q_p0_ways : Nat) (sz : Nat) (F_size : Int32) (F_start : Int32) (F_behind : Int32) (F_from : Int32) (F_letter : Int32) (F_mark : Int32) (F_to : Int32) (A_bytes : Nat → Int32) (F_p0_states : Int32) (F_p0_marks : Int32) (F_p0_takes : Int32) (F_p0_changes : Int32) {K : Int32 → Int32 → Int32 → Int32 → Int32 → Int32 → Int32 → Prop} (hw : wX8_readMove F_size F_start F_behind F_from F_letter F_mark F_to A_bytes F_p0_states F_p0_marks K) : Met l yX8_readMove wsX8_readMove rmX8_readMove (ms_X (ms_K adK adV qB (va_A [(q_t, .inr (8, [.ref q_t_bytes, .int F_size, .int F_start, .int F_behind, .int F_from, .int F_letter, .int F_mark, .int F_to])), (q_t_bytes, .inl (cI, 160, .inl A_bytes)), (q_p0, .inr (5, [.ref q_p0_ways, .int F_p0_states, .int F_p0_marks, .int F_p0_takes, .int F_p0_changes]))] sz)) (ms_Pz G (ms_T cI cJ cZ) [(q_t, .inr (8, [.ref q_t_bytes, .int F_size, .int F_start, .int F_behind, .int F_from, .int F_letter, .int F_mark, .int F_to])), (q_t_bytes, .inl (cI, 160, .inl A_bytes)), (q_p0, .inr (5, [.ref q_p0_ways, .int F_p0_states, .int F_p0_marks, .int F_p0_takes, .int F_p0_changes]))] sz [.ref q_t, .ref q_p0])) (ms_Wi G (ms_T cI cJ cZ) (fun (r : Int32) (u : Int32 × Int32 × Int32 × Int32 × Int32 × Int32) => ms_z r ∧ K r u.1 u.2.1 u.2.2.1 u.2.2.2.1 u.2.2.2.2.1 u.2.2.2.2.2) (fun u : Int32 × Int32 × Int32 × Int32 × Int32 × Int32 => [(q_t, .inr (8, [.ref q_t_bytes, .int F_size, .int u.1, .int u.2.1, .int u.2.2.1, .int u.2.2.2.1, .int u.2.2.2.2.1, .int u.2.2.2.2.2])), (q_t_bytes, .inl (cI, 160, .inl A_bytes)), (q_p0, .inr (5, [.ref q_p0_ways, .int F_p0_states, .int F_p0_marks, .int F_p0_takes, .int F_p0_changes]))]) (va_A [(q_t, .inr (8, [.ref q_t_bytes, .int F_size, .int F_start, .int F_behind, .int F_from, .int F_letter, .int F_mark, .int F_to])), (q_t_bytes, .inl (cI, 160, .inl A_bytes)), (q_p0, .inr (5, [.ref q_p0_ways, .int F_p0_states, .int F_p0_marks, .int F_p0_takes, .int F_p0_changes]))] sz)) 0 0 (va_A [(q_t, .inr (8, [.ref q_t_bytes, .int F_size, .int F_start, .int F_behind, .int F_from, .int F_letter, .int F_mark, .int F_to])), (q_t_bytes, .inl (cI, 160, .inl A_bytes)), (q_p0, .inr (5, [.ref q_p0_ways, .int F_p0_states, .int F_p0_marks, .int F_p0_takes, .int F_p0_changes]))] sz) := by
  refine ms_tXi (cc := cX8_readMove) (maxL := 2) (ty := .boolean) (by decide) rfl (Nat.le_of_ble_eq_true rfl) ?_
  intro p e s m args below meth c Q A hx hb hml hown hts hK hP hD hS hA hAi hsz hX hRet ls hl
  have hl : lv_has ls 2 [(0, .ref q_t), (1, .ref q_p0)] := hl
  have hown : s.vm.findClass RX8 = some m.cls := hown
  have hX : ms_K adK adV qB A s := hX.narrow (fun q h => by rw [← hsz]; exact (hAi q).mp h)
  refine lv_aload_n hx hb dX8_readMove_0 rfl (lv_at hl 0 rfl) ?_
  refine lv_aload_n hx hb dX8_readMove_1 rfl (lv_at hl 0 rfl) ?_
  refine ms_cVi ⟨hx, hb, hml, hown, hts⟩ hK hP hD (c_X8_digit l G cI cJ cZ q_t q_t_bytes F_size F_start F_behind F_from F_letter F_mark F_to A_bytes hw) gX8_readMove_X8_digit rfl nd_X8_digit (ci := 8) rfl rfl rfl ⟨rfl, rfl⟩ rfl ⟨Nat.le_of_ble_eq_true rfl, Nat.le_of_ble_eq_true rfl⟩ hl.1 (rest := [.ref q_t]) rfl (Nat.le_of_ble_eq_true rfl)  [0, 1] rfl rfl dX8_readMove_2 (fun r1 hw => ?_)
  refine va_put (D := G) (ci := 8) (v := .int r1) (ty := .int) (C := RX8) (T := TX8) (N := 8) hx hb hts hkX8_readMove_X8 tyX8 tyX8_ok nmX8 hown hK hP hD hS 0 rfl rfl 4 (by decide) (hts (.fieldLink RX8 25 "NestReaders$Text" "from" "I") hfX8_readMove_25) (fun _ h9 => h9) rfl (by decide +kernel) rfl rfl (Nat.le_of_ble_eq_true rfl) dX8_readMove_5 (fun H locs hP hD hS => ?_)
  have hP : va_P G vwCl [(q_t, .inr (8, [.ref q_t_bytes, .int F_size, .int F_start, .int F_behind, .int r1, .int F_letter, .int F_mark, .int F_to])), (q_t_bytes, .inl (cI, 160, .inl A_bytes)), (q_p0, .inr (5, [.ref q_p0_ways, .int F_p0_states, .int F_p0_marks, .int F_p0_takes, .int F_p0_changes]))] H := hP
  have hD : va_D A [(q_t, .inr (8, [.ref q_t_bytes, .int F_size, .int F_start, .int F_behind, .int r1, .int F_letter, .int F_mark, .int F_to])), (q_t_bytes, .inl (cI, 160, .inl A_bytes)), (q_p0, .inr (5, [.ref q_p0_ways, .int F_p0_states, .int F_p0_marks, .int F_p0_takes, .int F_p0_changes]))] := hD
  refine lv_aload_n hx hb dX8_readMove_8 rfl (lv_at hl 0 rfl) ?_
  refine lv_aload_n hx hb dX8_readMove_9 rfl (lv_at hl 1 rfl) ?_
  refine lv_aload_n hx hb dX8_readMove_10 rfl (lv_at hl 0 rfl) ?_
  refine va_get (D := G) (ci := 8) (v := .int r1) (C := RX8) (T := TX8) (N := 8) hx hb hts hkX8_readMove_X8 hown hK hP 0 rfl rfl 4 (by decide) (hts (.fieldLink RX8 25 "NestReaders$Text" "from" "I") hfX8_readMove_25) (fun _ h9 => h9) rfl dX8_readMove_11 ?_
  refine ms_cVi ⟨hx, hb, hml, hown, hts⟩ hK hP hD (c_X5_isState l G cI cJ cZ q_p0 q_p0_ways F_p0_states F_p0_marks F_p0_takes F_p0_changes r1 hw) gX8_readMove_X5_isState rfl nd_X5_isState (ci := 5) rfl rfl rfl ⟨rfl, rfl⟩ rfl ⟨Nat.le_of_ble_eq_true rfl, Nat.le_of_ble_eq_true rfl⟩ hl.1 (rest := [.ref q_t]) rfl (Nat.le_of_ble_eq_true rfl)  [2] rfl rfl dX8_readMove_14 (fun r2 hw => ?_)
  have zzr2 := hw.1
  have hw := hw.2
  refine ms_mVi (wr := [(q_p0, .inr (5, [.ref q_p0_ways, .int F_p0_states, .int F_p0_marks, .int F_p0_takes, .int F_p0_changes]))]) ⟨hx, hb, hml, hown, hts⟩ hK hP hD (c_X8_pass l G cI cJ cZ q_t q_t_bytes H.size F_size F_start F_behind r1 F_letter F_mark F_to A_bytes r2 hw) gX8_readMove_X8_pass rfl nd_X8_pass (ci := 8) rfl rfl rfl ⟨rfl, rfl⟩ rfl ⟨Nat.le_of_ble_eq_true rfl, Nat.le_of_ble_eq_true rfl⟩ hl.1 (rest := []) rfl (Nat.le_of_ble_eq_true rfl)  hS hA [0, 1] [2] rfl rfl rfl (by decide) rfl dX8_readMove_17 (fun r3 u H locs hw hP hD hS => ?_)
  obtain ⟨u4, u5⟩ := u
  have zzr3 := hw.1
  have hw := hw.2
  obtain ⟨hP, hD⟩ : ms_PD G A [(q_t, .inr (8, [.ref q_t_bytes, .int F_size, .int u4, .int u5, .int r1, .int F_letter, .int F_mark, .int F_to])), (q_t_bytes, .inl (cI, 160, .inl A_bytes)), (q_p0, .inr (5, [.ref q_p0_ways, .int F_p0_states, .int F_p0_marks, .int F_p0_takes, .int F_p0_changes]))] H := ms_PDsub hP hD [1, 2, 0] (by decide +kernel) rfl
  refine lv_if_ne (tgt := 25) hx hb dX8_readMove_20 (by decide) (fun c6 => ?_) (fun c6 => ?_)
  · have hw := hw.2 c6
    refine lv_aload_n hx hb dX8_readMove_25 rfl (lv_at hl 0 rfl) ?_
    refine lv_aload_n hx hb dX8_readMove_26 rfl (lv_at hl 0 rfl) ?_
    refine ms_cVi ⟨hx, hb, hml, hown, hts⟩ hK hP hD (c_X8_head l G cI cJ cZ q_t q_t_bytes F_size u4 u5 r1 F_letter F_mark F_to A_bytes hw) gX8_readMove_X8_head rfl nd_X8_head (ci := 8) rfl rfl rfl ⟨rfl, rfl⟩ rfl ⟨Nat.le_of_ble_eq_true rfl, Nat.le_of_ble_eq_true rfl⟩ hl.1 (rest := [.ref q_t]) rfl (Nat.le_of_ble_eq_true rfl)  [0, 1] rfl rfl dX8_readMove_27 (fun r7 hw => ?_)
    refine lv_bipush (v := (97)) hx hb dX8_readMove_30 (by decide) ?_
    refine lv_isub hx hb dX8_readMove_32 ?_
    refine lv_topi (fun x8 ex8 => ?_)
    have hw := hw x8 ex8
    refine va_put (D := G) (ci := 8) (v := .int x8) (ty := .int) (C := RX8) (T := TX8) (N := 8) hx hb hts hkX8_readMove_X8 tyX8 tyX8_ok nmX8 hown hK hP hD hS 0 rfl rfl 5 (by decide) (hts (.fieldLink RX8 28 "NestReaders$Text" "letter" "I") hfX8_readMove_28) (fun _ h9 => h9) rfl (by decide +kernel) rfl rfl (Nat.le_of_ble_eq_true rfl) dX8_readMove_33 (fun H locs hP hD hS => ?_)
    have hP : va_P G vwCl [(q_t, .inr (8, [.ref q_t_bytes, .int F_size, .int u4, .int u5, .int r1, .int x8, .int F_mark, .int F_to])), (q_t_bytes, .inl (cI, 160, .inl A_bytes)), (q_p0, .inr (5, [.ref q_p0_ways, .int F_p0_states, .int F_p0_marks, .int F_p0_takes, .int F_p0_changes]))] H := hP
    have hD : va_D A [(q_t, .inr (8, [.ref q_t_bytes, .int F_size, .int u4, .int u5, .int r1, .int x8, .int F_mark, .int F_to])), (q_t_bytes, .inl (cI, 160, .inl A_bytes)), (q_p0, .inr (5, [.ref q_p0_ways, .int F_p0_states, .int F_p0_marks, .int F_p0_takes, .int F_p0_changes]))] := hD
    refine lv_aload_n hx hb dX8_readMove_36 rfl (lv_at hl 0 rfl) ?_
    refine lv_aload_n hx hb dX8_readMove_37 rfl (lv_at hl 0 rfl) ?_
    refine va_get (D := G) (ci := 8) (v := .int u5) (C := RX8) (T := TX8) (N := 8) hx hb hts hkX8_readMove_X8 hown hK hP 0 rfl rfl 3 (by decide) (hts (.fieldLink RX8 22 "NestReaders$Text" "behind" "I") hfX8_readMove_22) (fun _ h9 => h9) rfl dX8_readMove_38 ?_
    refine lv_aload_n hx hb dX8_readMove_41 rfl (lv_at hl 0 rfl) ?_
    refine va_get (D := G) (ci := 8) (v := .int u4) (C := RX8) (T := TX8) (N := 8) hx hb hts hkX8_readMove_X8 hown hK hP 0 rfl rfl 2 (by decide) (hts (.fieldLink RX8 19 "NestReaders$Text" "start" "I") hfX8_readMove_19) (fun _ h9 => h9) rfl dX8_readMove_42 ?_
    refine lv_isub hx hb dX8_readMove_45 ?_
    refine lv_iconst (v := 1) hx hb dX8_readMove_46 (by decide) ?_
    have hw := hw (fun s71_1 => ∀ (H : Heap) (locs : List Loc), va_P G vwCl [(q_t, .inr (8, [.ref q_t_bytes, .int F_size, .int u4, .int u5, .int r1, .int x8, .int F_mark, .int F_to])), (q_t_bytes, .inl (cI, 160, .inl A_bytes)), (q_p0, .inr (5, [.ref q_p0_ways, .int F_p0_states, .int F_p0_marks, .int F_p0_takes, .int F_p0_changes]))] H → va_D A [(q_t, .inr (8, [.ref q_t_bytes, .int F_size, .int u4, .int u5, .int r1, .int x8, .int F_mark, .int F_to])), (q_t_bytes, .inl (cI, 160, .inl A_bytes)), (q_p0, .inr (5, [.ref q_p0_ways, .int F_p0_states, .int F_p0_marks, .int F_p0_takes, .int F_p0_changes]))] → va_S A s.heap H locs → ∀ ls : Array Slot, lv_has ls 2 [(0, .ref q_t), (1, .ref q_p0)] → W p l e rmX8_readMove s m args below meth c H locs 0 0 Q (F0 m 71 ls [.int s71_1, .ref q_t])) (fun s71_1 hw H locs hP hD hS ls hl => by
      refine ms_mVi (wr := [(q_p0, .inr (5, [.ref q_p0_ways, .int F_p0_states, .int F_p0_marks, .int F_p0_takes, .int F_p0_changes]))]) ⟨hx, hb, hml, hown, hts⟩ hK hP hD (c_X8_pass l G cI cJ cZ q_t q_t_bytes H.size F_size u4 u5 r1 x8 F_mark F_to A_bytes s71_1 hw) gX8_readMove_X8_pass rfl nd_X8_pass (ci := 8) rfl rfl rfl ⟨rfl, rfl⟩ rfl ⟨Nat.le_of_ble_eq_true rfl, Nat.le_of_ble_eq_true rfl⟩ hl.1 (rest := []) rfl (Nat.le_of_ble_eq_true rfl)  hS hA [0, 1] [2] rfl rfl rfl (by decide) rfl dX8_readMove_71 (fun r9 u H locs hw hP hD hS => ?_)
      obtain ⟨u10, u11⟩ := u
      have zzr9 := hw.1
      have hw := hw.2
      obtain ⟨hP, hD⟩ : ms_PD G A [(q_t, .inr (8, [.ref q_t_bytes, .int F_size, .int u10, .int u11, .int r1, .int x8, .int F_mark, .int F_to])), (q_t_bytes, .inl (cI, 160, .inl A_bytes)), (q_p0, .inr (5, [.ref q_p0_ways, .int F_p0_states, .int F_p0_marks, .int F_p0_takes, .int F_p0_changes]))] H := ms_PDsub hP hD [1, 2, 0] (by decide +kernel) rfl
      refine lv_if_ne (tgt := 79) hx hb dX8_readMove_74 (by decide) (fun c12 => ?_) (fun c12 => ?_)
      · have hw := hw.2 c12
        refine lv_aload_n hx hb dX8_readMove_79 rfl (lv_at hl 0 rfl) ?_
        refine lv_iconst (v := 0) hx hb dX8_readMove_80 (by decide) ?_
        refine va_put (D := G) (ci := 8) (v := .int (0 : Int32)) (ty := .int) (C := RX8) (T := TX8) (N := 8) hx hb hts hkX8_readMove_X8 tyX8 tyX8_ok nmX8 hown hK hP hD hS 0 rfl rfl 6 (by decide) (hts (.fieldLink RX8 31 "NestReaders$Text" "mark" "I") hfX8_readMove_31) (fun _ h9 => h9) rfl (by decide +kernel) rfl rfl (Nat.le_of_ble_eq_true rfl) dX8_readMove_81 (fun H locs hP hD hS => ?_)
        have hP : va_P G vwCl [(q_t, .inr (8, [.ref q_t_bytes, .int F_size, .int u10, .int u11, .int r1, .int x8, .int (0 : Int32), .int F_to])), (q_t_bytes, .inl (cI, 160, .inl A_bytes)), (q_p0, .inr (5, [.ref q_p0_ways, .int F_p0_states, .int F_p0_marks, .int F_p0_takes, .int F_p0_changes]))] H := hP
        have hD : va_D A [(q_t, .inr (8, [.ref q_t_bytes, .int F_size, .int u10, .int u11, .int r1, .int x8, .int (0 : Int32), .int F_to])), (q_t_bytes, .inl (cI, 160, .inl A_bytes)), (q_p0, .inr (5, [.ref q_p0_ways, .int F_p0_states, .int F_p0_marks, .int F_p0_takes, .int F_p0_changes]))] := hD
        refine lv_aload_n hx hb dX8_readMove_84 rfl (lv_at hl 0 rfl) ?_
        refine va_get (D := G) (ci := 8) (v := .int x8) (C := RX8) (T := TX8) (N := 8) hx hb hts hkX8_readMove_X8 hown hK hP 0 rfl rfl 5 (by decide) (hts (.fieldLink RX8 28 "NestReaders$Text" "letter" "I") hfX8_readMove_28) (fun _ h9 => h9) rfl dX8_readMove_85 ?_
        refine ms_cSi ⟨hx, hb, hml, hown, hts⟩ hK hP hD (c_X5_closes l G cI cJ cZ x8 hw) gX8_readMove_X5_closes rfl nd_X5_closes ⟨rfl, rfl⟩ rfl ⟨Nat.le_of_ble_eq_true rfl, Nat.le_of_ble_eq_true rfl⟩ hl.1 (rest := []) rfl (Nat.le_of_ble_eq_true rfl)  [] rfl rfl dX8_readMove_88 (fun r13 hw => ?_)
        have zzr13 := hw.1
        have hw := hw.2
        refine lv_if_eq (tgt := 118) hx hb dX8_readMove_91 (by decide) (fun c14 => ?_) (fun c14 => ?_)
        · have hw := hw.1 c14
          refine lv_aload_n hx hb dX8_readMove_118 rfl (lv_at hl 0 rfl) ?_
          refine lv_aload_n hx hb dX8_readMove_119 rfl (lv_at hl 0 rfl) ?_
          refine va_ldcS hx hb hown hX.2.2.2.2.2.2.2.1 dX8_readMove_120 ?_
          refine ms_cXVi ms_K.blind (fun U hU hW => hX.go hS (fun _ h => h.elim) hU hW) ⟨hx, hb, hml, hown, hts⟩ hK hP hD (c_X8_isWord l G cI cJ cZ adK adV qB q_t q_t_bytes F_size u10 u11 r1 x8 (0 : Int32) F_to A_bytes 2 (by decide) hw) gX8_readMove_X8_isWord rfl nd_X8_isWord (ci := 8) rfl rfl rfl ⟨rfl, rfl⟩ rfl ⟨Nat.le_of_ble_eq_true rfl, Nat.le_of_ble_eq_true rfl⟩ hl.1 (rest := [.ref q_t]) rfl (Nat.le_of_ble_eq_true rfl)  [0, 1] rfl rfl dX8_readMove_122 (fun r15 hw => ?_)
          have zzr15 := hw.1
          have hw := hw.2
          refine ms_mVi (wr := [(q_p0, .inr (5, [.ref q_p0_ways, .int F_p0_states, .int F_p0_marks, .int F_p0_takes, .int F_p0_changes]))]) ⟨hx, hb, hml, hown, hts⟩ hK hP hD (c_X8_pass l G cI cJ cZ q_t q_t_bytes H.size F_size u10 u11 r1 x8 (0 : Int32) F_to A_bytes r15 hw) gX8_readMove_X8_pass rfl nd_X8_pass (ci := 8) rfl rfl rfl ⟨rfl, rfl⟩ rfl ⟨Nat.le_of_ble_eq_true rfl, Nat.le_of_ble_eq_true rfl⟩ hl.1 (rest := []) rfl (Nat.le_of_ble_eq_true rfl)  hS hA [0, 1] [2] rfl rfl rfl (by decide) rfl dX8_readMove_125 (fun r16 u H locs hw hP hD hS => ?_)
          obtain ⟨u17, u18⟩ := u
          have zzr16 := hw.1
          have hw := hw.2
          obtain ⟨hP, hD⟩ : ms_PD G A [(q_t, .inr (8, [.ref q_t_bytes, .int F_size, .int u17, .int u18, .int r1, .int x8, .int (0 : Int32), .int F_to])), (q_t_bytes, .inl (cI, 160, .inl A_bytes)), (q_p0, .inr (5, [.ref q_p0_ways, .int F_p0_states, .int F_p0_marks, .int F_p0_takes, .int F_p0_changes]))] H := ms_PDsub hP hD [1, 2, 0] (by decide +kernel) rfl
          refine lv_if_ne (tgt := 133) hx hb dX8_readMove_128 (by decide) (fun c19 => ?_) (fun c19 => ?_)
          · have hw := hw.2 c19
            refine lv_aload_n hx hb dX8_readMove_133 rfl (lv_at hl 0 rfl) ?_
            refine lv_aload_n hx hb dX8_readMove_134 rfl (lv_at hl 0 rfl) ?_
            refine ms_cVi ⟨hx, hb, hml, hown, hts⟩ hK hP hD (c_X8_digit l G cI cJ cZ q_t q_t_bytes F_size u17 u18 r1 x8 (0 : Int32) F_to A_bytes hw) gX8_readMove_X8_digit rfl nd_X8_digit (ci := 8) rfl rfl rfl ⟨rfl, rfl⟩ rfl ⟨Nat.le_of_ble_eq_true rfl, Nat.le_of_ble_eq_true rfl⟩ hl.1 (rest := [.ref q_t]) rfl (Nat.le_of_ble_eq_true rfl)  [0, 1] rfl rfl dX8_readMove_135 (fun r20 hw => ?_)
            refine va_put (D := G) (ci := 8) (v := .int r20) (ty := .int) (C := RX8) (T := TX8) (N := 8) hx hb hts hkX8_readMove_X8 tyX8 tyX8_ok nmX8 hown hK hP hD hS 0 rfl rfl 7 (by decide) (hts (.fieldLink RX8 34 "NestReaders$Text" "to" "I") hfX8_readMove_34) (fun _ h9 => h9) rfl (by decide +kernel) rfl rfl (Nat.le_of_ble_eq_true rfl) dX8_readMove_138 (fun H locs hP hD hS => ?_)
            have hP : va_P G vwCl [(q_t, .inr (8, [.ref q_t_bytes, .int F_size, .int u17, .int u18, .int r1, .int x8, .int (0 : Int32), .int r20])), (q_t_bytes, .inl (cI, 160, .inl A_bytes)), (q_p0, .inr (5, [.ref q_p0_ways, .int F_p0_states, .int F_p0_marks, .int F_p0_takes, .int F_p0_changes]))] H := hP
            have hD : va_D A [(q_t, .inr (8, [.ref q_t_bytes, .int F_size, .int u17, .int u18, .int r1, .int x8, .int (0 : Int32), .int r20])), (q_t_bytes, .inl (cI, 160, .inl A_bytes)), (q_p0, .inr (5, [.ref q_p0_ways, .int F_p0_states, .int F_p0_marks, .int F_p0_takes, .int F_p0_changes]))] := hD
            refine lv_aload_n hx hb dX8_readMove_141 rfl (lv_at hl 0 rfl) ?_
            refine lv_aload_n hx hb dX8_readMove_142 rfl (lv_at hl 1 rfl) ?_
            refine lv_aload_n hx hb dX8_readMove_143 rfl (lv_at hl 0 rfl) ?_
            refine va_get (D := G) (ci := 8) (v := .int r20) (C := RX8) (T := TX8) (N := 8) hx hb hts hkX8_readMove_X8 hown hK hP 0 rfl rfl 7 (by decide) (hts (.fieldLink RX8 34 "NestReaders$Text" "to" "I") hfX8_readMove_34) (fun _ h9 => h9) rfl dX8_readMove_144 ?_
            refine ms_cVi ⟨hx, hb, hml, hown, hts⟩ hK hP hD (c_X5_isState l G cI cJ cZ q_p0 q_p0_ways F_p0_states F_p0_marks F_p0_takes F_p0_changes r20 hw) gX8_readMove_X5_isState rfl nd_X5_isState (ci := 5) rfl rfl rfl ⟨rfl, rfl⟩ rfl ⟨Nat.le_of_ble_eq_true rfl, Nat.le_of_ble_eq_true rfl⟩ hl.1 (rest := [.ref q_t]) rfl (Nat.le_of_ble_eq_true rfl)  [2] rfl rfl dX8_readMove_147 (fun r21 hw => ?_)
            have zzr21 := hw.1
            have hw := hw.2
            refine ms_mVi (wr := [(q_p0, .inr (5, [.ref q_p0_ways, .int F_p0_states, .int F_p0_marks, .int F_p0_takes, .int F_p0_changes]))]) ⟨hx, hb, hml, hown, hts⟩ hK hP hD (c_X8_pass l G cI cJ cZ q_t q_t_bytes H.size F_size u17 u18 r1 x8 (0 : Int32) r20 A_bytes r21 hw) gX8_readMove_X8_pass rfl nd_X8_pass (ci := 8) rfl rfl rfl ⟨rfl, rfl⟩ rfl ⟨Nat.le_of_ble_eq_true rfl, Nat.le_of_ble_eq_true rfl⟩ hl.1 (rest := []) rfl (Nat.le_of_ble_eq_true rfl)  hS hA [0, 1] [2] rfl rfl rfl (by decide) rfl dX8_readMove_150 (fun r22 u H locs hw hP hD hS => ?_)
            obtain ⟨u23, u24⟩ := u
            have zzr22 := hw.1
            have hw := hw.2
            obtain ⟨hP, hD⟩ : ms_PD G A [(q_t, .inr (8, [.ref q_t_bytes, .int F_size, .int u23, .int u24, .int r1, .int x8, .int (0 : Int32), .int r20])), (q_t_bytes, .inl (cI, 160, .inl A_bytes)), (q_p0, .inr (5, [.ref q_p0_ways, .int F_p0_states, .int F_p0_marks, .int F_p0_takes, .int F_p0_changes]))] H := ms_PDsub hP hD [1, 2, 0] (by decide +kernel) rfl
            refine lv_if_ne (tgt := 158) hx hb dX8_readMove_153 (by decide) (fun c25 => ?_) (fun c25 => ?_)
            · have hw := hw.2 c25
              refine lv_aload_n hx hb dX8_readMove_158 rfl (lv_at hl 0 rfl) ?_
              refine va_get (D := G) (ci := 8) (v := .int x8) (C := RX8) (T := TX8) (N := 8) hx hb hts hkX8_readMove_X8 hown hK hP 0 rfl rfl 5 (by decide) (hts (.fieldLink RX8 28 "NestReaders$Text" "letter" "I") hfX8_readMove_28) (fun _ h9 => h9) rfl dX8_readMove_159 ?_
              refine ms_cSi ⟨hx, hb, hml, hown, hts⟩ hK hP hD (c_X5_opens l G cI cJ cZ x8 hw) gX8_readMove_X5_opens rfl nd_X5_opens ⟨rfl, rfl⟩ rfl ⟨Nat.le_of_ble_eq_true rfl, Nat.le_of_ble_eq_true rfl⟩ hl.1 (rest := []) rfl (Nat.le_of_ble_eq_true rfl)  [] rfl rfl dX8_readMove_162 (fun r26 hw => ?_)
              have zzr26 := hw.1
              have hw := hw.2
              refine lv_if_eq (tgt := 190) hx hb dX8_readMove_165 (by decide) (fun c27 => ?_) (fun c27 => ?_)
              · have hw := hw.1 c27
                refine lv_iconst (v := 1) hx hb dX8_readMove_190 (by decide) ?_
                refine lv_goto (tgt := 195) hx hb dX8_readMove_191 (by decide) ?_
                exact hRet (1 : Int32) ⟨u23, u24, r1, x8, (0 : Int32), r20⟩ H locs _ _ ⟨ms_z1, hw⟩ ms_z1 hP hD hS dX8_readMove_195
              · have hw := hw.2 c27
                refine lv_aload_n hx hb dX8_readMove_168 rfl (lv_at hl 0 rfl) ?_
                refine lv_aload_n hx hb dX8_readMove_169 rfl (lv_at hl 0 rfl) ?_
                refine va_ldcS hx hb hown hX.2.2.2.2.2.2.2.2 dX8_readMove_170 ?_
                refine ms_cXVi ms_K.blind (fun U hU hW => hX.go hS (fun _ h => h.elim) hU hW) ⟨hx, hb, hml, hown, hts⟩ hK hP hD (c_X8_isWord l G cI cJ cZ adK adV qB q_t q_t_bytes F_size u23 u24 r1 x8 (0 : Int32) r20 A_bytes 3 (by decide) hw) gX8_readMove_X8_isWord rfl nd_X8_isWord (ci := 8) rfl rfl rfl ⟨rfl, rfl⟩ rfl ⟨Nat.le_of_ble_eq_true rfl, Nat.le_of_ble_eq_true rfl⟩ hl.1 (rest := [.ref q_t]) rfl (Nat.le_of_ble_eq_true rfl)  [0, 1] rfl rfl dX8_readMove_172 (fun r28 hw => ?_)
                have zzr28 := hw.1
                have hw := hw.2
                refine ms_mVi (wr := [(q_p0, .inr (5, [.ref q_p0_ways, .int F_p0_states, .int F_p0_marks, .int F_p0_takes, .int F_p0_changes]))]) ⟨hx, hb, hml, hown, hts⟩ hK hP hD (c_X8_pass l G cI cJ cZ q_t q_t_bytes H.size F_size u23 u24 r1 x8 (0 : Int32) r20 A_bytes r28 hw) gX8_readMove_X8_pass rfl nd_X8_pass (ci := 8) rfl rfl rfl ⟨rfl, rfl⟩ rfl ⟨Nat.le_of_ble_eq_true rfl, Nat.le_of_ble_eq_true rfl⟩ hl.1 (rest := []) rfl (Nat.le_of_ble_eq_true rfl)  hS hA [0, 1] [2] rfl rfl rfl (by decide) rfl dX8_readMove_175 (fun r29 u H locs hw hP hD hS => ?_)
                obtain ⟨u30, u31⟩ := u
                have zzr29 := hw.1
                have hw := hw.2
                obtain ⟨hP, hD⟩ : ms_PD G A [(q_t, .inr (8, [.ref q_t_bytes, .int F_size, .int u30, .int u31, .int r1, .int x8, .int (0 : Int32), .int r20])), (q_t_bytes, .inl (cI, 160, .inl A_bytes)), (q_p0, .inr (5, [.ref q_p0_ways, .int F_p0_states, .int F_p0_marks, .int F_p0_takes, .int F_p0_changes]))] H := ms_PDsub hP hD [1, 2, 0] (by decide +kernel) rfl
                refine lv_if_eq (tgt := 194) hx hb dX8_readMove_178 (by decide) (fun c32 => ?_) (fun c32 => ?_)
                · have hw := hw.1 c32
                  refine lv_iconst (v := 0) hx hb dX8_readMove_194 (by decide) ?_
                  exact hRet (0 : Int32) ⟨u30, u31, r1, x8, (0 : Int32), r20⟩ H locs _ _ ⟨ms_z0, hw⟩ ms_z0 hP hD hS dX8_readMove_195
                · have hw := hw.2 c32
                  refine lv_aload_n hx hb dX8_readMove_181 rfl (lv_at hl 0 rfl) ?_
                  refine lv_aload_n hx hb dX8_readMove_182 rfl (lv_at hl 1 rfl) ?_
                  refine lv_iconst (v := 0) hx hb dX8_readMove_183 (by decide) ?_
                  refine ms_mXVi (wr := []) ms_K.blind (fun U hU hW => hX.go hS (va_free hD hS hA [0, 1, 2] rfl) hU hW) ⟨hx, hb, hml, hown, hts⟩ hK hP hD (c_X8_readMark l G cI cJ cZ adK adV qB q_t q_t_bytes q_p0 q_p0_ways H.size F_size u30 u31 r1 x8 (0 : Int32) r20 A_bytes F_p0_states F_p0_marks F_p0_takes F_p0_changes (0 : Int32) hw) gX8_readMove_X8_readMark rfl nd_X8_readMark (ci := 8) rfl rfl rfl ⟨rfl, rfl⟩ rfl ⟨Nat.le_of_ble_eq_true rfl, Nat.le_of_ble_eq_true rfl⟩ hl.1 (rest := []) rfl (Nat.le_of_ble_eq_true rfl)  hS hA [0, 1, 2] [] rfl rfl rfl (by decide) rfl dX8_readMove_184 (fun r33 u H locs hw hP hD hS => ?_)
                  obtain ⟨u34, u35, u36⟩ := u
                  have zzr33 := hw.1
                  have hw := hw.2
                  obtain ⟨hP, hD⟩ : ms_PD G A [(q_t, .inr (8, [.ref q_t_bytes, .int F_size, .int u34, .int u35, .int r1, .int x8, .int u36, .int r20])), (q_t_bytes, .inl (cI, 160, .inl A_bytes)), (q_p0, .inr (5, [.ref q_p0_ways, .int F_p0_states, .int F_p0_marks, .int F_p0_takes, .int F_p0_changes]))] H := ms_PDsub hP hD [0, 1, 2] (by decide +kernel) rfl
                  refine lv_if_eq (tgt := 194) hx hb dX8_readMove_187 (by decide) (fun c37 => ?_) (fun c37 => ?_)
                  · have hw := hw.1 c37
                    refine lv_iconst (v := 0) hx hb dX8_readMove_194 (by decide) ?_
                    exact hRet (0 : Int32) ⟨u34, u35, r1, x8, u36, r20⟩ H locs _ _ ⟨ms_z0, hw⟩ ms_z0 hP hD hS dX8_readMove_195
                  · have hw := hw.2 c37
                    refine lv_iconst (v := 1) hx hb dX8_readMove_190 (by decide) ?_
                    refine lv_goto (tgt := 195) hx hb dX8_readMove_191 (by decide) ?_
                    exact hRet (1 : Int32) ⟨u34, u35, r1, x8, u36, r20⟩ H locs _ _ ⟨ms_z1, hw⟩ ms_z1 hP hD hS dX8_readMove_195
            · have hw := hw.1 c25
              refine lv_iconst (v := 0) hx hb dX8_readMove_156 (by decide) ?_
              exact hRet (0 : Int32) ⟨u23, u24, r1, x8, (0 : Int32), r20⟩ H locs _ _ ⟨ms_z0, hw⟩ ms_z0 hP hD hS dX8_readMove_157
          · have hw := hw.1 c19
            refine lv_iconst (v := 0) hx hb dX8_readMove_131 (by decide) ?_
            exact hRet (0 : Int32) ⟨u17, u18, r1, x8, (0 : Int32), F_to⟩ H locs _ _ ⟨ms_z0, hw⟩ ms_z0 hP hD hS dX8_readMove_132
        · have hw := hw.2 c14
          refine lv_aload_n hx hb dX8_readMove_94 rfl (lv_at hl 0 rfl) ?_
          refine lv_aload_n hx hb dX8_readMove_95 rfl (lv_at hl 0 rfl) ?_
          refine va_ldcS hx hb hown hX.2.2.2.2.2.1 dX8_readMove_96 ?_
          refine ms_cXVi ms_K.blind (fun U hU hW => hX.go hS (fun _ h => h.elim) hU hW) ⟨hx, hb, hml, hown, hts⟩ hK hP hD (c_X8_isWord l G cI cJ cZ adK adV qB q_t q_t_bytes F_size u10 u11 r1 x8 (0 : Int32) F_to A_bytes 0 (by decide) hw) gX8_readMove_X8_isWord rfl nd_X8_isWord (ci := 8) rfl rfl rfl ⟨rfl, rfl⟩ rfl ⟨Nat.le_of_ble_eq_true rfl, Nat.le_of_ble_eq_true rfl⟩ hl.1 (rest := [.ref q_t]) rfl (Nat.le_of_ble_eq_true rfl)  [0, 1] rfl rfl dX8_readMove_98 (fun r38 hw => ?_)
          have zzr38 := hw.1
          have hw := hw.2
          refine ms_mVi (wr := [(q_p0, .inr (5, [.ref q_p0_ways, .int F_p0_states, .int F_p0_marks, .int F_p0_takes, .int F_p0_changes]))]) ⟨hx, hb, hml, hown, hts⟩ hK hP hD (c_X8_pass l G cI cJ cZ q_t q_t_bytes H.size F_size u10 u11 r1 x8 (0 : Int32) F_to A_bytes r38 hw) gX8_readMove_X8_pass rfl nd_X8_pass (ci := 8) rfl rfl rfl ⟨rfl, rfl⟩ rfl ⟨Nat.le_of_ble_eq_true rfl, Nat.le_of_ble_eq_true rfl⟩ hl.1 (rest := []) rfl (Nat.le_of_ble_eq_true rfl)  hS hA [0, 1] [2] rfl rfl rfl (by decide) rfl dX8_readMove_101 (fun r39 u H locs hw hP hD hS => ?_)
          obtain ⟨u40, u41⟩ := u
          have zzr39 := hw.1
          have hw := hw.2
          obtain ⟨hP, hD⟩ : ms_PD G A [(q_t, .inr (8, [.ref q_t_bytes, .int F_size, .int u40, .int u41, .int r1, .int x8, .int (0 : Int32), .int F_to])), (q_t_bytes, .inl (cI, 160, .inl A_bytes)), (q_p0, .inr (5, [.ref q_p0_ways, .int F_p0_states, .int F_p0_marks, .int F_p0_takes, .int F_p0_changes]))] H := ms_PDsub hP hD [1, 2, 0] (by decide +kernel) rfl
          refine lv_if_eq (tgt := 116) hx hb dX8_readMove_104 (by decide) (fun c42 => ?_) (fun c42 => ?_)
          · have hw := hw.1 c42
            refine lv_iconst (v := 0) hx hb dX8_readMove_116 (by decide) ?_
            exact hRet (0 : Int32) ⟨u40, u41, r1, x8, (0 : Int32), F_to⟩ H locs _ _ ⟨ms_z0, hw⟩ ms_z0 hP hD hS dX8_readMove_117
          · have hw := hw.2 c42
            refine lv_aload_n hx hb dX8_readMove_107 rfl (lv_at hl 0 rfl) ?_
            refine lv_aload_n hx hb dX8_readMove_108 rfl (lv_at hl 1 rfl) ?_
            refine lv_iconst (v := 1) hx hb dX8_readMove_109 (by decide) ?_
            refine ms_mXVi (wr := []) ms_K.blind (fun U hU hW => hX.go hS (va_free hD hS hA [0, 1, 2] rfl) hU hW) ⟨hx, hb, hml, hown, hts⟩ hK hP hD (c_X8_readMark l G cI cJ cZ adK adV qB q_t q_t_bytes q_p0 q_p0_ways H.size F_size u40 u41 r1 x8 (0 : Int32) F_to A_bytes F_p0_states F_p0_marks F_p0_takes F_p0_changes (1 : Int32) hw) gX8_readMove_X8_readMark rfl nd_X8_readMark (ci := 8) rfl rfl rfl ⟨rfl, rfl⟩ rfl ⟨Nat.le_of_ble_eq_true rfl, Nat.le_of_ble_eq_true rfl⟩ hl.1 (rest := []) rfl (Nat.le_of_ble_eq_true rfl)  hS hA [0, 1, 2] [] rfl rfl rfl (by decide) rfl dX8_readMove_110 (fun r43 u H locs hw hP hD hS => ?_)
            obtain ⟨u44, u45, u46⟩ := u
            have zzr43 := hw.1
            have hw := hw.2
            obtain ⟨hP, hD⟩ : ms_PD G A [(q_t, .inr (8, [.ref q_t_bytes, .int F_size, .int u44, .int u45, .int r1, .int x8, .int u46, .int F_to])), (q_t_bytes, .inl (cI, 160, .inl A_bytes)), (q_p0, .inr (5, [.ref q_p0_ways, .int F_p0_states, .int F_p0_marks, .int F_p0_takes, .int F_p0_changes]))] H := ms_PDsub hP hD [0, 1, 2] (by decide +kernel) rfl
            refine lv_if_ne (tgt := 118) hx hb dX8_readMove_113 (by decide) (fun c47 => ?_) (fun c47 => ?_)
            · have hw := hw.2 c47
              refine lv_aload_n hx hb dX8_readMove_118 rfl (lv_at hl 0 rfl) ?_
              refine lv_aload_n hx hb dX8_readMove_119 rfl (lv_at hl 0 rfl) ?_
              refine va_ldcS hx hb hown hX.2.2.2.2.2.2.2.1 dX8_readMove_120 ?_
              refine ms_cXVi ms_K.blind (fun U hU hW => hX.go hS (fun _ h => h.elim) hU hW) ⟨hx, hb, hml, hown, hts⟩ hK hP hD (c_X8_isWord l G cI cJ cZ adK adV qB q_t q_t_bytes F_size u44 u45 r1 x8 u46 F_to A_bytes 2 (by decide) hw) gX8_readMove_X8_isWord rfl nd_X8_isWord (ci := 8) rfl rfl rfl ⟨rfl, rfl⟩ rfl ⟨Nat.le_of_ble_eq_true rfl, Nat.le_of_ble_eq_true rfl⟩ hl.1 (rest := [.ref q_t]) rfl (Nat.le_of_ble_eq_true rfl)  [0, 1] rfl rfl dX8_readMove_122 (fun r48 hw => ?_)
              have zzr48 := hw.1
              have hw := hw.2
              refine ms_mVi (wr := [(q_p0, .inr (5, [.ref q_p0_ways, .int F_p0_states, .int F_p0_marks, .int F_p0_takes, .int F_p0_changes]))]) ⟨hx, hb, hml, hown, hts⟩ hK hP hD (c_X8_pass l G cI cJ cZ q_t q_t_bytes H.size F_size u44 u45 r1 x8 u46 F_to A_bytes r48 hw) gX8_readMove_X8_pass rfl nd_X8_pass (ci := 8) rfl rfl rfl ⟨rfl, rfl⟩ rfl ⟨Nat.le_of_ble_eq_true rfl, Nat.le_of_ble_eq_true rfl⟩ hl.1 (rest := []) rfl (Nat.le_of_ble_eq_true rfl)  hS hA [0, 1] [2] rfl rfl rfl (by decide) rfl dX8_readMove_125 (fun r49 u H locs hw hP hD hS => ?_)
              obtain ⟨u50, u51⟩ := u
              have zzr49 := hw.1
              have hw := hw.2
              obtain ⟨hP, hD⟩ : ms_PD G A [(q_t, .inr (8, [.ref q_t_bytes, .int F_size, .int u50, .int u51, .int r1, .int x8, .int u46, .int F_to])), (q_t_bytes, .inl (cI, 160, .inl A_bytes)), (q_p0, .inr (5, [.ref q_p0_ways, .int F_p0_states, .int F_p0_marks, .int F_p0_takes, .int F_p0_changes]))] H := ms_PDsub hP hD [1, 2, 0] (by decide +kernel) rfl
              refine lv_if_ne (tgt := 133) hx hb dX8_readMove_128 (by decide) (fun c52 => ?_) (fun c52 => ?_)
              · have hw := hw.2 c52
                refine lv_aload_n hx hb dX8_readMove_133 rfl (lv_at hl 0 rfl) ?_
                refine lv_aload_n hx hb dX8_readMove_134 rfl (lv_at hl 0 rfl) ?_
                refine ms_cVi ⟨hx, hb, hml, hown, hts⟩ hK hP hD (c_X8_digit l G cI cJ cZ q_t q_t_bytes F_size u50 u51 r1 x8 u46 F_to A_bytes hw) gX8_readMove_X8_digit rfl nd_X8_digit (ci := 8) rfl rfl rfl ⟨rfl, rfl⟩ rfl ⟨Nat.le_of_ble_eq_true rfl, Nat.le_of_ble_eq_true rfl⟩ hl.1 (rest := [.ref q_t]) rfl (Nat.le_of_ble_eq_true rfl)  [0, 1] rfl rfl dX8_readMove_135 (fun r53 hw => ?_)
                refine va_put (D := G) (ci := 8) (v := .int r53) (ty := .int) (C := RX8) (T := TX8) (N := 8) hx hb hts hkX8_readMove_X8 tyX8 tyX8_ok nmX8 hown hK hP hD hS 0 rfl rfl 7 (by decide) (hts (.fieldLink RX8 34 "NestReaders$Text" "to" "I") hfX8_readMove_34) (fun _ h9 => h9) rfl (by decide +kernel) rfl rfl (Nat.le_of_ble_eq_true rfl) dX8_readMove_138 (fun H locs hP hD hS => ?_)
                have hP : va_P G vwCl [(q_t, .inr (8, [.ref q_t_bytes, .int F_size, .int u50, .int u51, .int r1, .int x8, .int u46, .int r53])), (q_t_bytes, .inl (cI, 160, .inl A_bytes)), (q_p0, .inr (5, [.ref q_p0_ways, .int F_p0_states, .int F_p0_marks, .int F_p0_takes, .int F_p0_changes]))] H := hP
                have hD : va_D A [(q_t, .inr (8, [.ref q_t_bytes, .int F_size, .int u50, .int u51, .int r1, .int x8, .int u46, .int r53])), (q_t_bytes, .inl (cI, 160, .inl A_bytes)), (q_p0, .inr (5, [.ref q_p0_ways, .int F_p0_states, .int F_p0_marks, .int F_p0_takes, .int F_p0_changes]))] := hD
                refine lv_aload_n hx hb dX8_readMove_141 rfl (lv_at hl 0 rfl) ?_
                refine lv_aload_n hx hb dX8_readMove_142 rfl (lv_at hl 1 rfl) ?_
                refine lv_aload_n hx hb dX8_readMove_143 rfl (lv_at hl 0 rfl) ?_
                refine va_get (D := G) (ci := 8) (v := .int r53) (C := RX8) (T := TX8) (N := 8) hx hb hts hkX8_readMove_X8 hown hK hP 0 rfl rfl 7 (by decide) (hts (.fieldLink RX8 34 "NestReaders$Text" "to" "I") hfX8_readMove_34) (fun _ h9 => h9) rfl dX8_readMove_144 ?_
                refine ms_cVi ⟨hx, hb, hml, hown, hts⟩ hK hP hD (c_X5_isState l G cI cJ cZ q_p0 q_p0_ways F_p0_states F_p0_marks F_p0_takes F_p0_changes r53 hw) gX8_readMove_X5_isState rfl nd_X5_isState (ci := 5) rfl rfl rfl ⟨rfl, rfl⟩ rfl ⟨Nat.le_of_ble_eq_true rfl, Nat.le_of_ble_eq_true rfl⟩ hl.1 (rest := [.ref q_t]) rfl (Nat.le_of_ble_eq_true rfl)  [2] rfl rfl dX8_readMove_147 (fun r54 hw => ?_)
                have zzr54 := hw.1
                have hw := hw.2
                refine ms_mVi (wr := [(q_p0, .inr (5, [.ref q_p0_ways, .int F_p0_states, .int F_p0_marks, .int F_p0_takes, .int F_p0_changes]))]) ⟨hx, hb, hml, hown, hts⟩ hK hP hD (c_X8_pass l G cI cJ cZ q_t q_t_bytes H.size F_size u50 u51 r1 x8 u46 r53 A_bytes r54 hw) gX8_readMove_X8_pass rfl nd_X8_pass (ci := 8) rfl rfl rfl ⟨rfl, rfl⟩ rfl ⟨Nat.le_of_ble_eq_true rfl, Nat.le_of_ble_eq_true rfl⟩ hl.1 (rest := []) rfl (Nat.le_of_ble_eq_true rfl)  hS hA [0, 1] [2] rfl rfl rfl (by decide) rfl dX8_readMove_150 (fun r55 u H locs hw hP hD hS => ?_)
                obtain ⟨u56, u57⟩ := u
                have zzr55 := hw.1
                have hw := hw.2
                obtain ⟨hP, hD⟩ : ms_PD G A [(q_t, .inr (8, [.ref q_t_bytes, .int F_size, .int u56, .int u57, .int r1, .int x8, .int u46, .int r53])), (q_t_bytes, .inl (cI, 160, .inl A_bytes)), (q_p0, .inr (5, [.ref q_p0_ways, .int F_p0_states, .int F_p0_marks, .int F_p0_takes, .int F_p0_changes]))] H := ms_PDsub hP hD [1, 2, 0] (by decide +kernel) rfl
                refine lv_if_ne (tgt := 158) hx hb dX8_readMove_153 (by decide) (fun c58 => ?_) (fun c58 => ?_)
                · have hw := hw.2 c58
                  refine lv_aload_n hx hb dX8_readMove_158 rfl (lv_at hl 0 rfl) ?_
                  refine va_get (D := G) (ci := 8) (v := .int x8) (C := RX8) (T := TX8) (N := 8) hx hb hts hkX8_readMove_X8 hown hK hP 0 rfl rfl 5 (by decide) (hts (.fieldLink RX8 28 "NestReaders$Text" "letter" "I") hfX8_readMove_28) (fun _ h9 => h9) rfl dX8_readMove_159 ?_
                  refine ms_cSi ⟨hx, hb, hml, hown, hts⟩ hK hP hD (c_X5_opens l G cI cJ cZ x8 hw) gX8_readMove_X5_opens rfl nd_X5_opens ⟨rfl, rfl⟩ rfl ⟨Nat.le_of_ble_eq_true rfl, Nat.le_of_ble_eq_true rfl⟩ hl.1 (rest := []) rfl (Nat.le_of_ble_eq_true rfl)  [] rfl rfl dX8_readMove_162 (fun r59 hw => ?_)
                  have zzr59 := hw.1
                  have hw := hw.2
                  refine lv_if_eq (tgt := 190) hx hb dX8_readMove_165 (by decide) (fun c60 => ?_) (fun c60 => ?_)
                  · have hw := hw.1 c60
                    refine lv_iconst (v := 1) hx hb dX8_readMove_190 (by decide) ?_
                    refine lv_goto (tgt := 195) hx hb dX8_readMove_191 (by decide) ?_
                    exact hRet (1 : Int32) ⟨u56, u57, r1, x8, u46, r53⟩ H locs _ _ ⟨ms_z1, hw⟩ ms_z1 hP hD hS dX8_readMove_195
                  · have hw := hw.2 c60
                    refine lv_aload_n hx hb dX8_readMove_168 rfl (lv_at hl 0 rfl) ?_
                    refine lv_aload_n hx hb dX8_readMove_169 rfl (lv_at hl 0 rfl) ?_
                    refine va_ldcS hx hb hown hX.2.2.2.2.2.2.2.2 dX8_readMove_170 ?_
                    refine ms_cXVi ms_K.blind (fun U hU hW => hX.go hS (fun _ h => h.elim) hU hW) ⟨hx, hb, hml, hown, hts⟩ hK hP hD (c_X8_isWord l G cI cJ cZ adK adV qB q_t q_t_bytes F_size u56 u57 r1 x8 u46 r53 A_bytes 3 (by decide) hw) gX8_readMove_X8_isWord rfl nd_X8_isWord (ci := 8) rfl rfl rfl ⟨rfl, rfl⟩ rfl ⟨Nat.le_of_ble_eq_true rfl, Nat.le_of_ble_eq_true rfl⟩ hl.1 (rest := [.ref q_t]) rfl (Nat.le_of_ble_eq_true rfl)  [0, 1] rfl rfl dX8_readMove_172 (fun r61 hw => ?_)
                    have zzr61 := hw.1
                    have hw := hw.2
                    refine ms_mVi (wr := [(q_p0, .inr (5, [.ref q_p0_ways, .int F_p0_states, .int F_p0_marks, .int F_p0_takes, .int F_p0_changes]))]) ⟨hx, hb, hml, hown, hts⟩ hK hP hD (c_X8_pass l G cI cJ cZ q_t q_t_bytes H.size F_size u56 u57 r1 x8 u46 r53 A_bytes r61 hw) gX8_readMove_X8_pass rfl nd_X8_pass (ci := 8) rfl rfl rfl ⟨rfl, rfl⟩ rfl ⟨Nat.le_of_ble_eq_true rfl, Nat.le_of_ble_eq_true rfl⟩ hl.1 (rest := []) rfl (Nat.le_of_ble_eq_true rfl)  hS hA [0, 1] [2] rfl rfl rfl (by decide) rfl dX8_readMove_175 (fun r62 u H locs hw hP hD hS => ?_)
                    obtain ⟨u63, u64⟩ := u
                    have zzr62 := hw.1
                    have hw := hw.2
                    obtain ⟨hP, hD⟩ : ms_PD G A [(q_t, .inr (8, [.ref q_t_bytes, .int F_size, .int u63, .int u64, .int r1, .int x8, .int u46, .int r53])), (q_t_bytes, .inl (cI, 160, .inl A_bytes)), (q_p0, .inr (5, [.ref q_p0_ways, .int F_p0_states, .int F_p0_marks, .int F_p0_takes, .int F_p0_changes]))] H := ms_PDsub hP hD [1, 2, 0] (by decide +kernel) rfl
                    refine lv_if_eq (tgt := 194) hx hb dX8_readMove_178 (by decide) (fun c65 => ?_) (fun c65 => ?_)
                    · have hw := hw.1 c65
                      refine lv_iconst (v := 0) hx hb dX8_readMove_194 (by decide) ?_
                      exact hRet (0 : Int32) ⟨u63, u64, r1, x8, u46, r53⟩ H locs _ _ ⟨ms_z0, hw⟩ ms_z0 hP hD hS dX8_readMove_195
                    · have hw := hw.2 c65
                      refine lv_aload_n hx hb dX8_readMove_181 rfl (lv_at hl 0 rfl) ?_
                      refine lv_aload_n hx hb dX8_readMove_182 rfl (lv_at hl 1 rfl) ?_
                      refine lv_iconst (v := 0) hx hb dX8_readMove_183 (by decide) ?_
                      refine ms_mXVi (wr := []) ms_K.blind (fun U hU hW => hX.go hS (va_free hD hS hA [0, 1, 2] rfl) hU hW) ⟨hx, hb, hml, hown, hts⟩ hK hP hD (c_X8_readMark l G cI cJ cZ adK adV qB q_t q_t_bytes q_p0 q_p0_ways H.size F_size u63 u64 r1 x8 u46 r53 A_bytes F_p0_states F_p0_marks F_p0_takes F_p0_changes (0 : Int32) hw) gX8_readMove_X8_readMark rfl nd_X8_readMark (ci := 8) rfl rfl rfl ⟨rfl, rfl⟩ rfl ⟨Nat.le_of_ble_eq_true rfl, Nat.le_of_ble_eq_true rfl⟩ hl.1 (rest := []) rfl (Nat.le_of_ble_eq_true rfl)  hS hA [0, 1, 2] [] rfl rfl rfl (by decide) rfl dX8_readMove_184 (fun r66 u H locs hw hP hD hS => ?_)
                      obtain ⟨u67, u68, u69⟩ := u
                      have zzr66 := hw.1
                      have hw := hw.2
                      obtain ⟨hP, hD⟩ : ms_PD G A [(q_t, .inr (8, [.ref q_t_bytes, .int F_size, .int u67, .int u68, .int r1, .int x8, .int u69, .int r53])), (q_t_bytes, .inl (cI, 160, .inl A_bytes)), (q_p0, .inr (5, [.ref q_p0_ways, .int F_p0_states, .int F_p0_marks, .int F_p0_takes, .int F_p0_changes]))] H := ms_PDsub hP hD [0, 1, 2] (by decide +kernel) rfl
                      refine lv_if_eq (tgt := 194) hx hb dX8_readMove_187 (by decide) (fun c70 => ?_) (fun c70 => ?_)
                      · have hw := hw.1 c70
                        refine lv_iconst (v := 0) hx hb dX8_readMove_194 (by decide) ?_
                        exact hRet (0 : Int32) ⟨u67, u68, r1, x8, u69, r53⟩ H locs _ _ ⟨ms_z0, hw⟩ ms_z0 hP hD hS dX8_readMove_195
                      · have hw := hw.2 c70
                        refine lv_iconst (v := 1) hx hb dX8_readMove_190 (by decide) ?_
                        refine lv_goto (tgt := 195) hx hb dX8_readMove_191 (by decide) ?_
                        exact hRet (1 : Int32) ⟨u67, u68, r1, x8, u69, r53⟩ H locs _ _ ⟨ms_z1, hw⟩ ms_z1 hP hD hS dX8_readMove_195
                · have hw := hw.1 c58
                  refine lv_iconst (v := 0) hx hb dX8_readMove_156 (by decide) ?_
                  exact hRet (0 : Int32) ⟨u56, u57, r1, x8, u46, r53⟩ H locs _ _ ⟨ms_z0, hw⟩ ms_z0 hP hD hS dX8_readMove_157
              · have hw := hw.1 c52
                refine lv_iconst (v := 0) hx hb dX8_readMove_131 (by decide) ?_
                exact hRet (0 : Int32) ⟨u50, u51, r1, x8, u46, F_to⟩ H locs _ _ ⟨ms_z0, hw⟩ ms_z0 hP hD hS dX8_readMove_132
            · have hw := hw.1 c47
              refine lv_iconst (v := 0) hx hb dX8_readMove_116 (by decide) ?_
              exact hRet (0 : Int32) ⟨u44, u45, r1, x8, u46, F_to⟩ H locs _ _ ⟨ms_z0, hw⟩ ms_z0 hP hD hS dX8_readMove_117
      · have hw := hw.1 c12
        refine lv_iconst (v := 0) hx hb dX8_readMove_77 (by decide) ?_
        exact hRet (0 : Int32) ⟨u10, u11, r1, x8, F_mark, F_to⟩ H locs _ _ ⟨ms_z0, hw⟩ ms_z0 hP hD hS dX8_readMove_78
      )
    refine lv_icmp_ne (tgt := 70) hx hb dX8_readMove_47 (by decide) (fun c71 => ?_) (fun c71 => ?_)
    · have hw := hw.2 c71
      refine lv_iconst (v := 0) hx hb dX8_readMove_70 (by decide) ?_
      exact hw H locs hP hD hS ls (lv_sub hl [0, 1] rfl)
    · have hw := hw.1 c71
      refine lv_aload_n hx hb dX8_readMove_50 rfl (lv_at hl 0 rfl) ?_
      refine va_get (D := G) (ci := 8) (v := .int x8) (C := RX8) (T := TX8) (N := 8) hx hb hts hkX8_readMove_X8 hown hK hP 0 rfl rfl 5 (by decide) (hts (.fieldLink RX8 28 "NestReaders$Text" "letter" "I") hfX8_readMove_28) (fun _ h9 => h9) rfl dX8_readMove_51 ?_
      refine lv_if_lt (tgt := 70) hx hb dX8_readMove_54 (by decide) (fun c72 => ?_) (fun c72 => ?_)
      · have hw := hw.1 c72
        refine lv_iconst (v := 0) hx hb dX8_readMove_70 (by decide) ?_
        exact hw H locs hP hD hS ls (lv_sub hl [0, 1] rfl)
      · have hw := hw.2 c72
        refine lv_aload_n hx hb dX8_readMove_57 rfl (lv_at hl 0 rfl) ?_
        refine va_get (D := G) (ci := 8) (v := .int x8) (C := RX8) (T := TX8) (N := 8) hx hb hts hkX8_readMove_X8 hown hK hP 0 rfl rfl 5 (by decide) (hts (.fieldLink RX8 28 "NestReaders$Text" "letter" "I") hfX8_readMove_28) (fun _ h9 => h9) rfl dX8_readMove_58 ?_
        refine lv_bipush (v := (6)) hx hb dX8_readMove_61 (by decide) ?_
        refine lv_icmp_ge (tgt := 70) hx hb dX8_readMove_63 (by decide) (fun c73 => ?_) (fun c73 => ?_)
        · have hw := hw.1 c73
          refine lv_iconst (v := 0) hx hb dX8_readMove_70 (by decide) ?_
          exact hw H locs hP hD hS ls (lv_sub hl [0, 1] rfl)
        · have hw := hw.2 c73
          refine lv_iconst (v := 1) hx hb dX8_readMove_66 (by decide) ?_
          refine lv_goto (tgt := 71) hx hb dX8_readMove_67 (by decide) ?_
          exact hw H locs hP hD hS ls (lv_sub hl [0, 1] rfl)
  · have hw := hw.1 c6
    refine lv_iconst (v := 0) hx hb dX8_readMove_23 (by decide) ?_
    exact hRet (0 : Int32) ⟨u4, u5, r1, F_letter, F_mark, F_to⟩ H locs _ _ ⟨ms_z0, hw⟩ ms_z0 hP hD hS dX8_readMove_24
def wX8_faultFor_L11 (p1 : Int32) (F_size : Int32) (A_bytes : Nat → Int32) (F_p0_states : Int32) (F_p0_marks : Int32) (K : Int32 → Int32 → Int32 → Int32 → Int32 → Int32 → Int32 → Int32 → (Nat → Int32) → Prop) (E11 : Int32 → Int32 → Int32 → Int32 → Int32 → Int32 → Int32 → Int32 → (Nat → Int32) → Prop) (i11_3 : Int32) (F_start_11 : Int32) (F_behind_11 : Int32) (F_from_11 : Int32) (F_letter_11 : Int32) (F_mark_11 : Int32) (F_to_11 : Int32) (F_p0_changes_11 : Int32) (A_p0_ways_11 : Nat → Int32) : Prop :=
  ∀ P11 : Int32 → Int32 → Int32 → Int32 → Int32 → Int32 → Int32 → Int32 → (Nat → Int32) → Prop, (∀ (i11_3 : Int32) (F_start_11 : Int32) (F_behind_11 : Int32) (F_from_11 : Int32) (F_letter_11 : Int32) (F_mark_11 : Int32) (F_to_11 : Int32) (F_p0_changes_11 : Int32) (A_p0_ways_11 : Nat → Int32), (((16 : Int32) < i11_3 → E11 i11_3 F_start_11 F_behind_11 F_from_11 F_letter_11 F_mark_11 F_to_11 F_p0_changes_11 A_p0_ways_11) ∧ (¬ (16 : Int32) < i11_3 → (wX8_readMove F_size F_start_11 F_behind_11 F_from_11 F_letter_11 F_mark_11 F_to_11 A_bytes F_p0_states F_p0_marks (fun r4 u5 u6 u7 u8 u9 u10 => ((r4 = (0 : Int32) → K u5 u5 u6 u7 u8 u9 u10 F_p0_changes_11 A_p0_ways_11) ∧ (¬ r4 = (0 : Int32) → ((p1 = (0 : Int32) → (wX8_head F_size u5 A_bytes (fun r13 => ((r13 = (-1 : Int32) → K (-1 : Int32) u5 u6 u7 u8 u9 u10 F_p0_changes_11 A_p0_ways_11) ∧ (¬ r13 = (-1 : Int32) → (wX8_head F_size u5 A_bytes (fun r15 => ((r15 = (59 : Int32) → ((i11_3 = (16 : Int32) → K u5 u5 u6 u7 u8 u9 u10 F_p0_changes_11 A_p0_ways_11) ∧ (¬ i11_3 = (16 : Int32) → (wX8_step F_size u5 u6 A_bytes (fun u18 u19 => (∀ x20 : Int32, x20 = i11_3 + (1 : Int32) → P11 x20 u18 u19 u7 u8 u9 u10 F_p0_changes_11 A_p0_ways_11)))))) ∧ (¬ r15 = (59 : Int32) → K u5 u5 u6 u7 u8 u9 u10 F_p0_changes_11 A_p0_ways_11))))))))) ∧ (¬ p1 = (0 : Int32) → (wX5_add u7 u8 u9 u10 F_p0_states F_p0_marks F_p0_changes_11 A_p0_ways_11 (fun u21 u22 => (wX8_head F_size u5 A_bytes (fun r23 => ((r23 = (-1 : Int32) → K (-1 : Int32) u5 u6 u7 u8 u9 u10 u21 u22) ∧ (¬ r23 = (-1 : Int32) → (wX8_head F_size u5 A_bytes (fun r25 => ((r25 = (59 : Int32) → ((i11_3 = (16 : Int32) → K u5 u5 u6 u7 u8 u9 u10 u21 u22) ∧ (¬ i11_3 = (16 : Int32) → (wX8_step F_size u5 u6 A_bytes (fun u28 u29 => (∀ x30 : Int32, x30 = i11_3 + (1 : Int32) → P11 x30 u28 u29 u7 u8 u9 u10 u21 u22)))))) ∧ (¬ r25 = (59 : Int32) → K u5 u5 u6 u7 u8 u9 u10 u21 u22)))))))))))))))))) → P11 i11_3 F_start_11 F_behind_11 F_from_11 F_letter_11 F_mark_11 F_to_11 F_p0_changes_11 A_p0_ways_11) → P11 i11_3 F_start_11 F_behind_11 F_from_11 F_letter_11 F_mark_11 F_to_11 F_p0_changes_11 A_p0_ways_11
def wX8_faultFor (p1 : Int32) (F_size : Int32) (F_start : Int32) (F_behind : Int32) (F_from : Int32) (F_letter : Int32) (F_mark : Int32) (F_to : Int32) (A_bytes : Nat → Int32) (F_p0_states : Int32) (F_p0_marks : Int32) (F_p0_changes : Int32) (A_p0_ways : Nat → Int32) (K : Int32 → Int32 → Int32 → Int32 → Int32 → Int32 → Int32 → Int32 → (Nat → Int32) → Prop) : Prop :=
  (wX8_step F_size F_start (0 : Int32) A_bytes (fun u1 u2 => (wX8_faultFor_L11 p1 F_size A_bytes F_p0_states F_p0_marks K (fun i11_3 F_start_11 F_behind_11 F_from_11 F_letter_11 F_mark_11 F_to_11 F_p0_changes_11 A_p0_ways_11 => K F_start_11 F_start_11 F_behind_11 F_from_11 F_letter_11 F_mark_11 F_to_11 F_p0_changes_11 A_p0_ways_11) (1 : Int32) u1 u2 F_from F_letter F_mark F_to F_p0_changes A_p0_ways)))
abbrev rmX8_faultFor : Room := { frames := 7, cells := 0, slots := 0, locals := 151 }
theorem nd_X8_faultFor : yX8_faultFor.cls = RX8 ∧ yX8_faultFor.cls ≠ "java/lang/invoke/MethodHandle" ∧ yX8_faultFor.cls ≠ "java/lang/invoke/VarHandle" ∧ (parseMethodDescriptor yX8_faultFor.desc).map (fun d => d.parameters.length) = some 2 := by decide +kernel
theorem hkX8_faultFor_X8 : ∀ w ∈ u_ws RX8 TX8 8, w ∈ wsX8_faultFor := fun w h => List.mem_cons_of_mem _ (inlX8 w h)
theorem hfX8_faultFor_22 : (Cond.fieldLink RX8 22 "NestReaders$Text" "behind" "I") ∈ wsX8_faultFor := List.mem_cons_of_mem _ m4_2
theorem hfX8_faultFor_19 : (Cond.fieldLink RX8 19 "NestReaders$Text" "start" "I") ∈ wsX8_faultFor := List.mem_cons_of_mem _ m4_1
theorem hfX8_faultFor_25 : (Cond.fieldLink RX8 25 "NestReaders$Text" "from" "I") ∈ wsX8_faultFor := List.mem_cons_of_mem _ m4_3
theorem hfX8_faultFor_28 : (Cond.fieldLink RX8 28 "NestReaders$Text" "letter" "I") ∈ wsX8_faultFor := List.mem_cons_of_mem _ m4_4
theorem hfX8_faultFor_31 : (Cond.fieldLink RX8 31 "NestReaders$Text" "mark" "I") ∈ wsX8_faultFor := List.mem_cons_of_mem _ m4_5
theorem hfX8_faultFor_34 : (Cond.fieldLink RX8 34 "NestReaders$Text" "to" "I") ∈ wsX8_faultFor := List.mem_cons_of_mem _ m4_6
set_option maxHeartbeats 4000000 in
set_option maxRecDepth 100000 in
theorem c_X8_faultFor (l : Launch) (G : va_G) (cI cJ cZ : ClassId) (adK adV : Nat → Nat) (qB : Nat) (q_t q_t_bytes q_p0 q_p0_ways : Nat) (sz : Nat) (F_size : Int32) (F_start : Int32) (F_behind : Int32) (F_from : Int32) (F_letter : Int32) (F_mark : Int32) (F_to : Int32) (A_bytes : Nat → Int32) (F_p0_states : Int32) (F_p0_marks : Int32) (F_p0_takes : Int32) (F_p0_changes : Int32) (A_p0_ways : Nat → Int32) (p1 : Int32) {K : Int32 → Int32 → Int32 → Int32 → Int32 → Int32 → Int32 → Int32 → (Nat → Int32) → Prop} (hw : wX8_faultFor p1 F_size F_start F_behind F_from F_letter F_mark F_to A_bytes F_p0_states F_p0_marks F_p0_changes A_p0_ways K) : Met l yX8_faultFor wsX8_faultFor rmX8_faultFor (ms_X (ms_K adK adV qB (va_A [(q_t, .inr (8, [.ref q_t_bytes, .int F_size, .int F_start, .int F_behind, .int F_from, .int F_letter, .int F_mark, .int F_to])), (q_t_bytes, .inl (cI, 160, .inl A_bytes)), (q_p0, .inr (5, [.ref q_p0_ways, .int F_p0_states, .int F_p0_marks, .int F_p0_takes, .int F_p0_changes])), (q_p0_ways, .inl (cI, 18, .inl A_p0_ways))] sz)) (ms_Pz G (ms_T cI cJ cZ) [(q_t, .inr (8, [.ref q_t_bytes, .int F_size, .int F_start, .int F_behind, .int F_from, .int F_letter, .int F_mark, .int F_to])), (q_t_bytes, .inl (cI, 160, .inl A_bytes)), (q_p0, .inr (5, [.ref q_p0_ways, .int F_p0_states, .int F_p0_marks, .int F_p0_takes, .int F_p0_changes])), (q_p0_ways, .inl (cI, 18, .inl A_p0_ways))] sz [.ref q_t, .ref q_p0, .int p1])) (ms_Wi G (ms_T cI cJ cZ) (fun (r : Int32) (u : Int32 × Int32 × Int32 × Int32 × Int32 × Int32 × Int32 × (Nat → Int32)) => K r u.1 u.2.1 u.2.2.1 u.2.2.2.1 u.2.2.2.2.1 u.2.2.2.2.2.1 u.2.2.2.2.2.2.1 u.2.2.2.2.2.2.2) (fun u : Int32 × Int32 × Int32 × Int32 × Int32 × Int32 × Int32 × (Nat → Int32) => [(q_t, .inr (8, [.ref q_t_bytes, .int F_size, .int u.1, .int u.2.1, .int u.2.2.1, .int u.2.2.2.1, .int u.2.2.2.2.1, .int u.2.2.2.2.2.1])), (q_t_bytes, .inl (cI, 160, .inl A_bytes)), (q_p0, .inr (5, [.ref q_p0_ways, .int F_p0_states, .int F_p0_marks, .int F_p0_takes, .int u.2.2.2.2.2.2.1])), (q_p0_ways, .inl (cI, 18, .inl u.2.2.2.2.2.2.2))]) (va_A [(q_t, .inr (8, [.ref q_t_bytes, .int F_size, .int F_start, .int F_behind, .int F_from, .int F_letter, .int F_mark, .int F_to])), (q_t_bytes, .inl (cI, 160, .inl A_bytes)), (q_p0, .inr (5, [.ref q_p0_ways, .int F_p0_states, .int F_p0_marks, .int F_p0_takes, .int F_p0_changes])), (q_p0_ways, .inl (cI, 18, .inl A_p0_ways))] sz)) 0 0 (va_A [(q_t, .inr (8, [.ref q_t_bytes, .int F_size, .int F_start, .int F_behind, .int F_from, .int F_letter, .int F_mark, .int F_to])), (q_t_bytes, .inl (cI, 160, .inl A_bytes)), (q_p0, .inr (5, [.ref q_p0_ways, .int F_p0_states, .int F_p0_marks, .int F_p0_takes, .int F_p0_changes])), (q_p0_ways, .inl (cI, 18, .inl A_p0_ways))] sz) := by
  refine ms_tXi (cc := cX8_faultFor) (maxL := 4) (ty := .int) (by decide) rfl (Nat.le_of_ble_eq_true rfl) ?_
  intro p e s m args below meth c Q A hx hb hml hown hts hK hP hD hS hA hAi hsz hX hRet ls hl
  have hl : lv_has ls 4 [(0, .ref q_t), (1, .ref q_p0), (2, .int p1)] := hl
  have hown : s.vm.findClass RX8 = some m.cls := hown
  have hX : ms_K adK adV qB A s := hX.narrow (fun q h => by rw [← hsz]; exact (hAi q).mp h)
  refine lv_aload_n hx hb dX8_faultFor_0 rfl (lv_at hl 0 rfl) ?_
  refine lv_iconst (v := 0) hx hb dX8_faultFor_1 (by decide) ?_
  refine va_put (D := G) (ci := 8) (v := .int (0 : Int32)) (ty := .int) (C := RX8) (T := TX8) (N := 8) hx hb hts hkX8_faultFor_X8 tyX8 tyX8_ok nmX8 hown hK hP hD hS 0 rfl rfl 3 (by decide) (hts (.fieldLink RX8 22 "NestReaders$Text" "behind" "I") hfX8_faultFor_22) (fun _ h9 => h9) rfl (by decide +kernel) rfl rfl (Nat.le_of_ble_eq_true rfl) dX8_faultFor_2 (fun H locs hP hD hS => ?_)
  have hP : va_P G vwCl [(q_t, .inr (8, [.ref q_t_bytes, .int F_size, .int F_start, .int (0 : Int32), .int F_from, .int F_letter, .int F_mark, .int F_to])), (q_t_bytes, .inl (cI, 160, .inl A_bytes)), (q_p0, .inr (5, [.ref q_p0_ways, .int F_p0_states, .int F_p0_marks, .int F_p0_takes, .int F_p0_changes])), (q_p0_ways, .inl (cI, 18, .inl A_p0_ways))] H := hP
  have hD : va_D A [(q_t, .inr (8, [.ref q_t_bytes, .int F_size, .int F_start, .int (0 : Int32), .int F_from, .int F_letter, .int F_mark, .int F_to])), (q_t_bytes, .inl (cI, 160, .inl A_bytes)), (q_p0, .inr (5, [.ref q_p0_ways, .int F_p0_states, .int F_p0_marks, .int F_p0_takes, .int F_p0_changes])), (q_p0_ways, .inl (cI, 18, .inl A_p0_ways))] := hD
  refine lv_aload_n hx hb dX8_faultFor_5 rfl (lv_at hl 0 rfl) ?_
  refine ms_mVv (wr := [(q_p0, .inr (5, [.ref q_p0_ways, .int F_p0_states, .int F_p0_marks, .int F_p0_takes, .int F_p0_changes])), (q_p0_ways, .inl (cI, 18, .inl A_p0_ways))]) ⟨hx, hb, hml, hown, hts⟩ hK hP hD (c_X8_step l G cI cJ cZ q_t q_t_bytes H.size F_size F_start (0 : Int32) F_from F_letter F_mark F_to A_bytes hw) gX8_faultFor_X8_step rfl nd_X8_step (ci := 8) rfl rfl rfl ⟨rfl, rfl⟩ rfl ⟨Nat.le_of_ble_eq_true rfl, Nat.le_of_ble_eq_true rfl⟩ hl.1 (rest := []) rfl (Nat.le_of_ble_eq_true rfl)  hS hA [0, 1] [2, 3] rfl rfl rfl (by decide) rfl dX8_faultFor_6 (fun u H locs hw hP hD hS => ?_)
  obtain ⟨u1, u2⟩ := u
  obtain ⟨hP, hD⟩ : ms_PD G A [(q_t, .inr (8, [.ref q_t_bytes, .int F_size, .int u1, .int u2, .int F_from, .int F_letter, .int F_mark, .int F_to])), (q_t_bytes, .inl (cI, 160, .inl A_bytes)), (q_p0, .inr (5, [.ref q_p0_ways, .int F_p0_states, .int F_p0_marks, .int F_p0_takes, .int F_p0_changes])), (q_p0_ways, .inl (cI, 18, .inl A_p0_ways))] H := ms_PDsub hP hD [2, 3, 0, 1] (by decide +kernel) rfl
  refine lv_iconst (v := 1) hx hb dX8_faultFor_9 (by decide) ?_
  refine lv_istore_n (lv' := [(3, .int (1 : Int32)), (0, .ref q_t), (1, .ref q_p0), (2, .int p1)]) hx hb dX8_faultFor_10 rfl hl (by decide) rfl (fun ls hl => ?_)
  refine hw (fun i11_3 F_start_11 F_behind_11 F_from_11 F_letter_11 F_mark_11 F_to_11 F_p0_changes_11 A_p0_ways_11 => ∀ (H : Heap) (locs : List Loc), va_P G vwCl [(q_t, .inr (8, [.ref q_t_bytes, .int F_size, .int F_start_11, .int F_behind_11, .int F_from_11, .int F_letter_11, .int F_mark_11, .int F_to_11])), (q_t_bytes, .inl (cI, 160, .inl A_bytes)), (q_p0, .inr (5, [.ref q_p0_ways, .int F_p0_states, .int F_p0_marks, .int F_p0_takes, .int F_p0_changes_11])), (q_p0_ways, .inl (cI, 18, .inl A_p0_ways_11))] H → va_D A [(q_t, .inr (8, [.ref q_t_bytes, .int F_size, .int F_start_11, .int F_behind_11, .int F_from_11, .int F_letter_11, .int F_mark_11, .int F_to_11])), (q_t_bytes, .inl (cI, 160, .inl A_bytes)), (q_p0, .inr (5, [.ref q_p0_ways, .int F_p0_states, .int F_p0_marks, .int F_p0_takes, .int F_p0_changes_11])), (q_p0_ways, .inl (cI, 18, .inl A_p0_ways_11))] → va_S A s.heap H locs → ∀ ls : Array Slot, lv_has ls 4 [(0, .ref q_t), (1, .ref q_p0), (2, .int p1), (3, .int i11_3)] → W p l e rmX8_faultFor s m args below meth c H locs 0 0 Q (F0 m 11 ls [])) (fun i11_3 F_start_11 F_behind_11 F_from_11 F_letter_11 F_mark_11 F_to_11 F_p0_changes_11 A_p0_ways_11 hw H locs hP hD hS ls hl => ?_) H locs hP hD hS ls (lv_sub hl [1, 2, 3, 0] rfl)
  refine lv_iload_n hx hb dX8_faultFor_11 rfl (lv_at hl 3 rfl) ?_
  refine lv_bipush (v := (16)) hx hb dX8_faultFor_12 (by decide) ?_
  refine lv_icmp_gt (tgt := 94) hx hb dX8_faultFor_14 (by decide) (fun c3 => ?_) (fun c3 => ?_)
  · have hw := hw.1 c3
    refine lv_aload_n hx hb dX8_faultFor_94 rfl (lv_at hl 0 rfl) ?_
    refine va_get (D := G) (ci := 8) (v := .int F_start_11) (C := RX8) (T := TX8) (N := 8) hx hb hts hkX8_faultFor_X8 hown hK hP 0 rfl rfl 2 (by decide) (hts (.fieldLink RX8 19 "NestReaders$Text" "start" "I") hfX8_faultFor_19) (fun _ h9 => h9) rfl dX8_faultFor_95 ?_
    exact hRet F_start_11 ⟨F_start_11, F_behind_11, F_from_11, F_letter_11, F_mark_11, F_to_11, F_p0_changes_11, A_p0_ways_11⟩ H locs _ _ hw (vp_nar_int _) hP hD hS dX8_faultFor_98
  · have hw := hw.2 c3
    refine lv_aload_n hx hb dX8_faultFor_17 rfl (lv_at hl 0 rfl) ?_
    refine lv_aload_n hx hb dX8_faultFor_18 rfl (lv_at hl 1 rfl) ?_
    refine ms_mXVi (wr := [(q_p0_ways, .inl (cI, 18, .inl A_p0_ways_11))]) ms_K.blind (fun U hU hW => hX.go hS (va_free hD hS hA [0, 1, 2] rfl) hU hW) ⟨hx, hb, hml, hown, hts⟩ hK hP hD (c_X8_readMove l G cI cJ cZ adK adV qB q_t q_t_bytes q_p0 q_p0_ways H.size F_size F_start_11 F_behind_11 F_from_11 F_letter_11 F_mark_11 F_to_11 A_bytes F_p0_states F_p0_marks F_p0_takes F_p0_changes_11 hw) gX8_faultFor_X8_readMove rfl nd_X8_readMove (ci := 8) rfl rfl rfl ⟨rfl, rfl⟩ rfl ⟨Nat.le_of_ble_eq_true rfl, Nat.le_of_ble_eq_true rfl⟩ hl.1 (rest := []) rfl (Nat.le_of_ble_eq_true rfl)  hS hA [0, 1, 2] [3] rfl rfl rfl (by decide) rfl dX8_faultFor_19 (fun r4 u H locs hw hP hD hS => ?_)
    obtain ⟨u5, u6, u7, u8, u9, u10⟩ := u
    have zzr4 := hw.1
    have hw := hw.2
    obtain ⟨hP, hD⟩ : ms_PD G A [(q_t, .inr (8, [.ref q_t_bytes, .int F_size, .int u5, .int u6, .int u7, .int u8, .int u9, .int u10])), (q_t_bytes, .inl (cI, 160, .inl A_bytes)), (q_p0, .inr (5, [.ref q_p0_ways, .int F_p0_states, .int F_p0_marks, .int F_p0_takes, .int F_p0_changes_11])), (q_p0_ways, .inl (cI, 18, .inl A_p0_ways_11))] H := ms_PDsub hP hD [1, 2, 3, 0] (by decide +kernel) rfl
    refine lv_if_ne (tgt := 30) hx hb dX8_faultFor_22 (by decide) (fun c11 => ?_) (fun c11 => ?_)
    · have hw := hw.2 c11
      refine lv_iload_n hx hb dX8_faultFor_30 rfl (lv_at hl 2 rfl) ?_
      refine lv_if_eq (tgt := 54) hx hb dX8_faultFor_31 (by decide) (fun c12 => ?_) (fun c12 => ?_)
      · have hw := hw.1 c12
        refine lv_aload_n hx hb dX8_faultFor_54 rfl (lv_at hl 0 rfl) ?_
        refine ms_cVi ⟨hx, hb, hml, hown, hts⟩ hK hP hD (c_X8_head l G cI cJ cZ q_t q_t_bytes F_size u5 u6 u7 u8 u9 u10 A_bytes hw) gX8_faultFor_X8_head rfl nd_X8_head (ci := 8) rfl rfl rfl ⟨rfl, rfl⟩ rfl ⟨Nat.le_of_ble_eq_true rfl, Nat.le_of_ble_eq_true rfl⟩ hl.1 (rest := []) rfl (Nat.le_of_ble_eq_true rfl)  [0, 1] rfl rfl dX8_faultFor_55 (fun r13 hw => ?_)
        refine lv_iconst (v := (-1)) hx hb dX8_faultFor_58 (by decide) ?_
        refine lv_icmp_ne (tgt := 64) hx hb dX8_faultFor_59 (by decide) (fun c14 => ?_) (fun c14 => ?_)
        · have hw := hw.2 c14
          refine lv_aload_n hx hb dX8_faultFor_64 rfl (lv_at hl 0 rfl) ?_
          refine ms_cVi ⟨hx, hb, hml, hown, hts⟩ hK hP hD (c_X8_head l G cI cJ cZ q_t q_t_bytes F_size u5 u6 u7 u8 u9 u10 A_bytes hw) gX8_faultFor_X8_head rfl nd_X8_head (ci := 8) rfl rfl rfl ⟨rfl, rfl⟩ rfl ⟨Nat.le_of_ble_eq_true rfl, Nat.le_of_ble_eq_true rfl⟩ hl.1 (rest := []) rfl (Nat.le_of_ble_eq_true rfl)  [0, 1] rfl rfl dX8_faultFor_65 (fun r15 hw => ?_)
          refine lv_bipush (v := (59)) hx hb dX8_faultFor_68 (by decide) ?_
          refine lv_icmp_ne (tgt := 79) hx hb dX8_faultFor_70 (by decide) (fun c16 => ?_) (fun c16 => ?_)
          · have hw := hw.2 c16
            refine lv_aload_n hx hb dX8_faultFor_79 rfl (lv_at hl 0 rfl) ?_
            refine va_get (D := G) (ci := 8) (v := .int u5) (C := RX8) (T := TX8) (N := 8) hx hb hts hkX8_faultFor_X8 hown hK hP 0 rfl rfl 2 (by decide) (hts (.fieldLink RX8 19 "NestReaders$Text" "start" "I") hfX8_faultFor_19) (fun _ h9 => h9) rfl dX8_faultFor_80 ?_
            exact hRet u5 ⟨u5, u6, u7, u8, u9, u10, F_p0_changes_11, A_p0_ways_11⟩ H locs _ _ hw (vp_nar_int _) hP hD hS dX8_faultFor_83
          · have hw := hw.1 c16
            refine lv_iload_n hx hb dX8_faultFor_73 rfl (lv_at hl 3 rfl) ?_
            refine lv_bipush (v := (16)) hx hb dX8_faultFor_74 (by decide) ?_
            refine lv_icmp_ne (tgt := 84) hx hb dX8_faultFor_76 (by decide) (fun c17 => ?_) (fun c17 => ?_)
            · have hw := hw.2 c17
              refine lv_aload_n hx hb dX8_faultFor_84 rfl (lv_at hl 0 rfl) ?_
              refine ms_mVv (wr := [(q_p0, .inr (5, [.ref q_p0_ways, .int F_p0_states, .int F_p0_marks, .int F_p0_takes, .int F_p0_changes_11])), (q_p0_ways, .inl (cI, 18, .inl A_p0_ways_11))]) ⟨hx, hb, hml, hown, hts⟩ hK hP hD (c_X8_step l G cI cJ cZ q_t q_t_bytes H.size F_size u5 u6 u7 u8 u9 u10 A_bytes hw) gX8_faultFor_X8_step rfl nd_X8_step (ci := 8) rfl rfl rfl ⟨rfl, rfl⟩ rfl ⟨Nat.le_of_ble_eq_true rfl, Nat.le_of_ble_eq_true rfl⟩ hl.1 (rest := []) rfl (Nat.le_of_ble_eq_true rfl)  hS hA [0, 1] [2, 3] rfl rfl rfl (by decide) rfl dX8_faultFor_85 (fun u H locs hw hP hD hS => ?_)
              obtain ⟨u18, u19⟩ := u
              obtain ⟨hP, hD⟩ : ms_PD G A [(q_t, .inr (8, [.ref q_t_bytes, .int F_size, .int u18, .int u19, .int u7, .int u8, .int u9, .int u10])), (q_t_bytes, .inl (cI, 160, .inl A_bytes)), (q_p0, .inr (5, [.ref q_p0_ways, .int F_p0_states, .int F_p0_marks, .int F_p0_takes, .int F_p0_changes_11])), (q_p0_ways, .inl (cI, 18, .inl A_p0_ways_11))] H := ms_PDsub hP hD [2, 3, 0, 1] (by decide +kernel) rfl
              obtain ⟨x20, ex20⟩ : ∃ y : Int32, y = i11_3 + (1 : Int32) := ⟨_, rfl⟩
              have hw := hw x20 ex20
              refine lv_iinc (v := x20) (lv' := [(3, .int x20), (0, .ref q_t), (1, .ref q_p0), (2, .int p1)]) hx hb dX8_faultFor_88 hl (k := 3) rfl (by rw [ex20]; rfl) (by decide) rfl (fun ls hl => ?_)
              refine lv_goto (tgt := 11) hx hb dX8_faultFor_91 (by decide) ?_
              exact hw H locs hP hD hS ls (lv_sub hl [1, 2, 3, 0] rfl)
            · have hw := hw.1 c17
              refine lv_aload_n hx hb dX8_faultFor_79 rfl (lv_at hl 0 rfl) ?_
              refine va_get (D := G) (ci := 8) (v := .int u5) (C := RX8) (T := TX8) (N := 8) hx hb hts hkX8_faultFor_X8 hown hK hP 0 rfl rfl 2 (by decide) (hts (.fieldLink RX8 19 "NestReaders$Text" "start" "I") hfX8_faultFor_19) (fun _ h9 => h9) rfl dX8_faultFor_80 ?_
              exact hRet u5 ⟨u5, u6, u7, u8, u9, u10, F_p0_changes_11, A_p0_ways_11⟩ H locs _ _ hw (vp_nar_int _) hP hD hS dX8_faultFor_83
        · have hw := hw.1 c14
          refine lv_iconst (v := (-1)) hx hb dX8_faultFor_62 (by decide) ?_
          exact hRet (-1 : Int32) ⟨u5, u6, u7, u8, u9, u10, F_p0_changes_11, A_p0_ways_11⟩ H locs _ _ hw (vp_nar_int _) hP hD hS dX8_faultFor_63
      · have hw := hw.2 c12
        refine lv_aload_n hx hb dX8_faultFor_34 rfl (lv_at hl 1 rfl) ?_
        refine lv_aload_n hx hb dX8_faultFor_35 rfl (lv_at hl 0 rfl) ?_
        refine va_get (D := G) (ci := 8) (v := .int u7) (C := RX8) (T := TX8) (N := 8) hx hb hts hkX8_faultFor_X8 hown hK hP 0 rfl rfl 4 (by decide) (hts (.fieldLink RX8 25 "NestReaders$Text" "from" "I") hfX8_faultFor_25) (fun _ h9 => h9) rfl dX8_faultFor_36 ?_
        refine lv_aload_n hx hb dX8_faultFor_39 rfl (lv_at hl 0 rfl) ?_
        refine va_get (D := G) (ci := 8) (v := .int u8) (C := RX8) (T := TX8) (N := 8) hx hb hts hkX8_faultFor_X8 hown hK hP 0 rfl rfl 5 (by decide) (hts (.fieldLink RX8 28 "NestReaders$Text" "letter" "I") hfX8_faultFor_28) (fun _ h9 => h9) rfl dX8_faultFor_40 ?_
        refine lv_aload_n hx hb dX8_faultFor_43 rfl (lv_at hl 0 rfl) ?_
        refine va_get (D := G) (ci := 8) (v := .int u9) (C := RX8) (T := TX8) (N := 8) hx hb hts hkX8_faultFor_X8 hown hK hP 0 rfl rfl 6 (by decide) (hts (.fieldLink RX8 31 "NestReaders$Text" "mark" "I") hfX8_faultFor_31) (fun _ h9 => h9) rfl dX8_faultFor_44 ?_
        refine lv_aload_n hx hb dX8_faultFor_47 rfl (lv_at hl 0 rfl) ?_
        refine va_get (D := G) (ci := 8) (v := .int u10) (C := RX8) (T := TX8) (N := 8) hx hb hts hkX8_faultFor_X8 hown hK hP 0 rfl rfl 7 (by decide) (hts (.fieldLink RX8 34 "NestReaders$Text" "to" "I") hfX8_faultFor_34) (fun _ h9 => h9) rfl dX8_faultFor_48 ?_
        refine ms_mVv (wr := [(q_t, .inr (8, [.ref q_t_bytes, .int F_size, .int u5, .int u6, .int u7, .int u8, .int u9, .int u10])), (q_t_bytes, .inl (cI, 160, .inl A_bytes))]) ⟨hx, hb, hml, hown, hts⟩ hK hP hD (c_X5_add l G cI cJ cZ q_p0 q_p0_ways H.size F_p0_states F_p0_marks F_p0_takes F_p0_changes_11 A_p0_ways_11 u7 u8 u9 u10 hw) gX8_faultFor_X5_add rfl nd_X5_add (ci := 5) rfl rfl rfl ⟨rfl, rfl⟩ rfl ⟨Nat.le_of_ble_eq_true rfl, Nat.le_of_ble_eq_true rfl⟩ hl.1 (rest := []) rfl (Nat.le_of_ble_eq_true rfl)  hS hA [2, 3] [0, 1] rfl rfl rfl (by decide) rfl dX8_faultFor_51 (fun u H locs hw hP hD hS => ?_)
        obtain ⟨u21, u22⟩ := u
        obtain ⟨hP, hD⟩ : ms_PD G A [(q_t, .inr (8, [.ref q_t_bytes, .int F_size, .int u5, .int u6, .int u7, .int u8, .int u9, .int u10])), (q_t_bytes, .inl (cI, 160, .inl A_bytes)), (q_p0, .inr (5, [.ref q_p0_ways, .int F_p0_states, .int F_p0_marks, .int F_p0_takes, .int u21])), (q_p0_ways, .inl (cI, 18, .inl u22))] H := ms_PDsub hP hD [0, 1, 2, 3] (by decide +kernel) rfl
        refine lv_aload_n hx hb dX8_faultFor_54 rfl (lv_at hl 0 rfl) ?_
        refine ms_cVi ⟨hx, hb, hml, hown, hts⟩ hK hP hD (c_X8_head l G cI cJ cZ q_t q_t_bytes F_size u5 u6 u7 u8 u9 u10 A_bytes hw) gX8_faultFor_X8_head rfl nd_X8_head (ci := 8) rfl rfl rfl ⟨rfl, rfl⟩ rfl ⟨Nat.le_of_ble_eq_true rfl, Nat.le_of_ble_eq_true rfl⟩ hl.1 (rest := []) rfl (Nat.le_of_ble_eq_true rfl)  [0, 1] rfl rfl dX8_faultFor_55 (fun r23 hw => ?_)
        refine lv_iconst (v := (-1)) hx hb dX8_faultFor_58 (by decide) ?_
        refine lv_icmp_ne (tgt := 64) hx hb dX8_faultFor_59 (by decide) (fun c24 => ?_) (fun c24 => ?_)
        · have hw := hw.2 c24
          refine lv_aload_n hx hb dX8_faultFor_64 rfl (lv_at hl 0 rfl) ?_
          refine ms_cVi ⟨hx, hb, hml, hown, hts⟩ hK hP hD (c_X8_head l G cI cJ cZ q_t q_t_bytes F_size u5 u6 u7 u8 u9 u10 A_bytes hw) gX8_faultFor_X8_head rfl nd_X8_head (ci := 8) rfl rfl rfl ⟨rfl, rfl⟩ rfl ⟨Nat.le_of_ble_eq_true rfl, Nat.le_of_ble_eq_true rfl⟩ hl.1 (rest := []) rfl (Nat.le_of_ble_eq_true rfl)  [0, 1] rfl rfl dX8_faultFor_65 (fun r25 hw => ?_)
          refine lv_bipush (v := (59)) hx hb dX8_faultFor_68 (by decide) ?_
          refine lv_icmp_ne (tgt := 79) hx hb dX8_faultFor_70 (by decide) (fun c26 => ?_) (fun c26 => ?_)
          · have hw := hw.2 c26
            refine lv_aload_n hx hb dX8_faultFor_79 rfl (lv_at hl 0 rfl) ?_
            refine va_get (D := G) (ci := 8) (v := .int u5) (C := RX8) (T := TX8) (N := 8) hx hb hts hkX8_faultFor_X8 hown hK hP 0 rfl rfl 2 (by decide) (hts (.fieldLink RX8 19 "NestReaders$Text" "start" "I") hfX8_faultFor_19) (fun _ h9 => h9) rfl dX8_faultFor_80 ?_
            exact hRet u5 ⟨u5, u6, u7, u8, u9, u10, u21, u22⟩ H locs _ _ hw (vp_nar_int _) hP hD hS dX8_faultFor_83
          · have hw := hw.1 c26
            refine lv_iload_n hx hb dX8_faultFor_73 rfl (lv_at hl 3 rfl) ?_
            refine lv_bipush (v := (16)) hx hb dX8_faultFor_74 (by decide) ?_
            refine lv_icmp_ne (tgt := 84) hx hb dX8_faultFor_76 (by decide) (fun c27 => ?_) (fun c27 => ?_)
            · have hw := hw.2 c27
              refine lv_aload_n hx hb dX8_faultFor_84 rfl (lv_at hl 0 rfl) ?_
              refine ms_mVv (wr := [(q_p0, .inr (5, [.ref q_p0_ways, .int F_p0_states, .int F_p0_marks, .int F_p0_takes, .int u21])), (q_p0_ways, .inl (cI, 18, .inl u22))]) ⟨hx, hb, hml, hown, hts⟩ hK hP hD (c_X8_step l G cI cJ cZ q_t q_t_bytes H.size F_size u5 u6 u7 u8 u9 u10 A_bytes hw) gX8_faultFor_X8_step rfl nd_X8_step (ci := 8) rfl rfl rfl ⟨rfl, rfl⟩ rfl ⟨Nat.le_of_ble_eq_true rfl, Nat.le_of_ble_eq_true rfl⟩ hl.1 (rest := []) rfl (Nat.le_of_ble_eq_true rfl)  hS hA [0, 1] [2, 3] rfl rfl rfl (by decide) rfl dX8_faultFor_85 (fun u H locs hw hP hD hS => ?_)
              obtain ⟨u28, u29⟩ := u
              obtain ⟨hP, hD⟩ : ms_PD G A [(q_t, .inr (8, [.ref q_t_bytes, .int F_size, .int u28, .int u29, .int u7, .int u8, .int u9, .int u10])), (q_t_bytes, .inl (cI, 160, .inl A_bytes)), (q_p0, .inr (5, [.ref q_p0_ways, .int F_p0_states, .int F_p0_marks, .int F_p0_takes, .int u21])), (q_p0_ways, .inl (cI, 18, .inl u22))] H := ms_PDsub hP hD [2, 3, 0, 1] (by decide +kernel) rfl
              obtain ⟨x30, ex30⟩ : ∃ y : Int32, y = i11_3 + (1 : Int32) := ⟨_, rfl⟩
              have hw := hw x30 ex30
              refine lv_iinc (v := x30) (lv' := [(3, .int x30), (0, .ref q_t), (1, .ref q_p0), (2, .int p1)]) hx hb dX8_faultFor_88 hl (k := 3) rfl (by rw [ex30]; rfl) (by decide) rfl (fun ls hl => ?_)
              refine lv_goto (tgt := 11) hx hb dX8_faultFor_91 (by decide) ?_
              exact hw H locs hP hD hS ls (lv_sub hl [1, 2, 3, 0] rfl)
            · have hw := hw.1 c27
              refine lv_aload_n hx hb dX8_faultFor_79 rfl (lv_at hl 0 rfl) ?_
              refine va_get (D := G) (ci := 8) (v := .int u5) (C := RX8) (T := TX8) (N := 8) hx hb hts hkX8_faultFor_X8 hown hK hP 0 rfl rfl 2 (by decide) (hts (.fieldLink RX8 19 "NestReaders$Text" "start" "I") hfX8_faultFor_19) (fun _ h9 => h9) rfl dX8_faultFor_80 ?_
              exact hRet u5 ⟨u5, u6, u7, u8, u9, u10, u21, u22⟩ H locs _ _ hw (vp_nar_int _) hP hD hS dX8_faultFor_83
        · have hw := hw.1 c24
          refine lv_iconst (v := (-1)) hx hb dX8_faultFor_62 (by decide) ?_
          exact hRet (-1 : Int32) ⟨u5, u6, u7, u8, u9, u10, u21, u22⟩ H locs _ _ hw (vp_nar_int _) hP hD hS dX8_faultFor_63
    · have hw := hw.1 c11
      refine lv_aload_n hx hb dX8_faultFor_25 rfl (lv_at hl 0 rfl) ?_
      refine va_get (D := G) (ci := 8) (v := .int u5) (C := RX8) (T := TX8) (N := 8) hx hb hts hkX8_faultFor_X8 hown hK hP 0 rfl rfl 2 (by decide) (hts (.fieldLink RX8 19 "NestReaders$Text" "start" "I") hfX8_faultFor_19) (fun _ h9 => h9) rfl dX8_faultFor_26 ?_
      exact hRet u5 ⟨u5, u6, u7, u8, u9, u10, F_p0_changes_11, A_p0_ways_11⟩ H locs _ _ hw (vp_nar_int _) hP hD hS dX8_faultFor_29
